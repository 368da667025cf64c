-- every prime from 3 to 2039 has a generator
def dm_comp (p : Nat) : Nat → Bool
  | 0 => false
  | k + 1 => dm_comp p k || (Nat.blt (k + 2) p && Nat.beq (p % (k + 2)) 0)
def dm_gen (p c : Nat) : Nat → Bool
  | 0 => true
  | k + 1 => dm_gen p c k && (!Nat.beq ((p - 1) % (k + 1)) 0 ||
      ((Nat.beq (k + 1) (p - 1) || !Nat.beq (c ^ (k + 1) % p) 1) && (Nat.beq k 0 || !Nat.beq (c ^ ((p - 1) / (k + 1)) % p) 1)))
def dm_ok (p : Nat) : Bool :=
  Nat.blt p 3 || dm_comp p 44 || [2, 3, 5, 6, 7, 11, 10, 13, 17, 14, 19, 21, 15].any (fun c => Nat.beq (c ^ (p - 1) % p) 1 && dm_gen p c 45)
theorem dm_comp_t {p : Nat} (k : Nat) (h : dm_comp p k = true) : ∃ d, 2 ≤ d ∧ d < p ∧ p % d = 0 := by
  induction k with
  | zero => exact absurd h (by simp [dm_comp])
  | succ k ih =>
    rw [dm_comp, Bool.or_eq_true, Bool.and_eq_true] at h
    rcases h with h | ⟨a, b⟩
    · exact ih h
    · exact ⟨k + 2, by omega, by simpa [Nat.blt_eq] using a, by simpa using b⟩
theorem dm_gen_t {p c : Nat} (k : Nat) (h : dm_gen p c k = true) (d : Nat) (d0 : 0 < d) (hd : d ≤ k) (hm : (p - 1) % d = 0) :
    (d = p - 1 ∨ c ^ d % p ≠ 1) ∧ (d = 1 ∨ c ^ ((p - 1) / d) % p ≠ 1) := by
  induction k with
  | zero => omega
  | succ k ih =>
    rw [dm_gen, Bool.and_eq_true] at h
    by_cases e : d = k + 1
    · subst e
      have h2 := h.2
      rw [hm] at h2
      have h3 : (k + 1 = p - 1 ∨ (c ^ (k + 1) % p).beq 1 = false) ∧ (k = 0 ∨ (c ^ ((p - 1) / (k + 1)) % p).beq 1 = false) := by
        simpa [Nat.beq_eq] using h2
      exact ⟨h3.1.imp id (fun z => Nat.ne_of_beq_eq_false z), h3.2.imp (fun z => by omega) (fun z => Nat.ne_of_beq_eq_false z)⟩
    · exact ih h.1 (by omega)
theorem dm_gen_O {p c : Nat} (hp : 2 < p) (hp2 : p ≤ 2039) (h1 : c ^ (p - 1) % p = 1) (h : dm_gen p c 45 = true) : dm_O p c (p - 1) := by
  obtain ⟨o, ho⟩ := dm_O_ex (by omega) (show 0 < p - 1 by omega) h1
  have hd : o ∣ p - 1 := (ho.2 _).mp h1
  obtain ⟨k, ek⟩ := hd
  have o1 := dm_O_one ho
  have o0 := ho.1
  by_cases hs : o ≤ 45
  · have := (dm_gen_t 45 h o o0 hs (by rw [ek]; exact Nat.mul_mod_right o k)).1
    rcases this with e | e
    · rw [← e]; exact ho
    · exact absurd o1 e
  · have hk0 : 0 < k := Nat.pos_of_ne_zero (fun z => by rw [z, Nat.mul_zero] at ek; omega)
    have hk : k ≤ 45 := by
      by_cases hk : k ≤ 45
      · exact hk
      · have := Nat.mul_le_mul (show 46 ≤ o by omega) (show 46 ≤ k by omega)
        omega
    have hdiv : (p - 1) / k = o := by rw [ek]; exact Nat.mul_div_cancel o hk0
    have := (dm_gen_t 45 h k hk0 hk (by rw [ek]; exact Nat.mul_mod_left o k)).2
    rw [hdiv] at this
    rcases this with e | e
    · rw [e, Nat.mul_one] at ek
      rw [ek]; exact ho
    · exact absurd o1 e
def dm_all (a : Nat) : Nat → Bool
  | 0 => true
  | n + 1 => dm_all a n && dm_ok (a + n)
theorem dm_all_t {a : Nat} (n : Nat) (h : dm_all a n = true) (i : Nat) (hi : i < n) : dm_ok (a + i) = true := by
  induction n with
  | zero => omega
  | succ n ih =>
    rw [dm_all, Bool.and_eq_true] at h
    by_cases e : i = n
    · subst e; exact h.2
    · exact ih h.1 (by omega)
set_option maxRecDepth 100000 in
theorem dm_t0 : dm_all 0 255 = true := by decide +kernel
set_option maxRecDepth 100000 in
theorem dm_t1 : dm_all 255 255 = true := by decide +kernel
set_option maxRecDepth 100000 in
theorem dm_t2 : dm_all 510 255 = true := by decide +kernel
set_option maxRecDepth 100000 in
theorem dm_t3 : dm_all 765 255 = true := by decide +kernel
set_option maxRecDepth 100000 in
theorem dm_t4 : dm_all 1020 255 = true := by decide +kernel
set_option maxRecDepth 100000 in
theorem dm_t5 : dm_all 1275 255 = true := by decide +kernel
set_option maxRecDepth 100000 in
theorem dm_t6 : dm_all 1530 255 = true := by decide +kernel
set_option maxRecDepth 100000 in
theorem dm_t7 : dm_all 1785 255 = true := by decide +kernel
theorem dm_table {p : Nat} (h : p ≤ 2039) : dm_ok p = true := by
  by_cases h0 : p < 255
  · have := dm_all_t 255 dm_t0 p h0
    rwa [Nat.zero_add] at this
  by_cases h1 : p < 510
  · have := dm_all_t 255 dm_t1 (p - 255) (by omega)
    rwa [Nat.add_sub_cancel' (by omega)] at this
  by_cases h2 : p < 765
  · have := dm_all_t 255 dm_t2 (p - 510) (by omega)
    rwa [Nat.add_sub_cancel' (by omega)] at this
  by_cases h3 : p < 1020
  · have := dm_all_t 255 dm_t3 (p - 765) (by omega)
    rwa [Nat.add_sub_cancel' (by omega)] at this
  by_cases h4 : p < 1275
  · have := dm_all_t 255 dm_t4 (p - 1020) (by omega)
    rwa [Nat.add_sub_cancel' (by omega)] at this
  by_cases h5 : p < 1530
  · have := dm_all_t 255 dm_t5 (p - 1275) (by omega)
    rwa [Nat.add_sub_cancel' (by omega)] at this
  by_cases h6 : p < 1785
  · have := dm_all_t 255 dm_t6 (p - 1530) (by omega)
    rwa [Nat.add_sub_cancel' (by omega)] at this
  by_cases h7 : p < 2040
  · have := dm_all_t 255 dm_t7 (p - 1785) (by omega)
    rwa [Nat.add_sub_cancel' (by omega)] at this
  omega
theorem dm_has {p : Nat} (hp : 2 < p) (hp2 : p ≤ 2039) (h : dm_P p) : ∃ c, dm_O p c (p - 1) := by
  have t := dm_table hp2
  rw [dm_ok, Bool.or_eq_true, Bool.or_eq_true] at t
  rcases t with (t | t) | t
  · have : p < 3 := by simpa [Nat.blt_eq] using t
    omega
  · obtain ⟨d, a, b, e⟩ := dm_comp_t 44 t
    exact absurd e (h d a b)
  · obtain ⟨c, _, hc⟩ := List.any_eq_true.mp t
    rw [Bool.and_eq_true] at hc
    exact ⟨c, dm_gen_O hp hp2 (by simpa using hc.1) hc.2⟩
