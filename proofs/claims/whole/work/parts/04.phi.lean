-- primes, the count of what is prime to d
def dm_P (q : Nat) : Prop := ∀ d, 2 ≤ d → d < q → q % d ≠ 0
theorem dm_P_dvd {q d : Nat} (h : dm_P q) (hq : 2 ≤ q) (hd : d ∣ q) : d = 1 ∨ d = q := by
  have h1 := Nat.le_of_dvd (by omega) hd
  have h0 : 0 < d := Nat.pos_of_dvd_of_pos hd (by omega)
  by_cases a : d = 1
  · exact Or.inl a
  · by_cases b : d = q
    · exact Or.inr b
    · exact absurd (Nat.mod_eq_zero_of_dvd hd) (h d (by omega) (by omega))
theorem dm_P_cop {q r : Nat} (hq : dm_P q) (q2 : 2 ≤ q) (h : ¬ q ∣ r) : Nat.Coprime q r := by
  rcases dm_P_dvd hq q2 (Nat.gcd_dvd_left q r) with e | e
  · exact e
  · exact absurd (e ▸ Nat.gcd_dvd_right q r) h
theorem dm_P_cop2 {q r : Nat} (hq : dm_P q) (q2 : 2 ≤ q) (hr : dm_P r) (r2 : 2 ≤ r) (h : q ≠ r) : Nat.Coprime q r :=
  dm_P_cop hq q2 (fun z => by
    rcases dm_P_dvd hr r2 z with e | e
    · omega
    · exact h e)
theorem dm_P_ex {n : Nat} (hn : 2 ≤ n) : ∃ q, 2 ≤ q ∧ dm_P q ∧ q ∣ n := by
  obtain ⟨q, ⟨h1, h2⟩, h3⟩ := pk_least (fun q => 2 ≤ q ∧ q ∣ n) ⟨n, hn, Nat.dvd_refl n⟩
  exact ⟨q, h1, fun d a b c => h3 d b ⟨a, Nat.dvd_trans (Nat.dvd_of_mod_eq_zero c) h2⟩, h2⟩
def dm_free (d q j : Nat) : Prop := ∀ r, 2 ≤ r → dm_P r → r < q → r ∣ d → ¬ r ∣ j
def dm_I (d q count : Nat) : Prop := ∃ Q F t, d = t * Q ∧ count = t * F ∧
  (∀ r, 2 ≤ r → dm_P r → q ≤ r → Nat.Coprime r Q) ∧ ∀ m, dm_cnt (fun j => dm_d (dm_free d q j)) (m * Q) = m * F
theorem dm_I0 (d : Nat) : dm_I d 2 d :=
  ⟨1, 1, d, (Nat.mul_one d).symm, (Nat.mul_one d).symm, fun r _ _ _ => Nat.coprime_one_right r, fun m =>
    dm_cnt_all _ (fun j _ => dm_d_iff.mpr (fun r a _ b => by omega))⟩
theorem dm_I1 {d q count : Nat} (h : dm_I d q count) (hn : ¬ (dm_P q ∧ q ∣ d)) : dm_I d (q + 1) count := by
  obtain ⟨Q, F, t, h1, h2, h3, h4⟩ := h
  refine ⟨Q, F, t, h1, h2, fun r a b c => h3 r a b (by omega), fun m => ?_⟩
  rw [← h4 m]
  refine dm_cnt_congr _ (fun j _ => dm_d_congr ⟨fun z r a b c => z r a b (by omega), fun z r a b c e => ?_⟩)
  by_cases w : r = q
  · exact absurd ⟨w ▸ b, w ▸ e⟩ hn
  · exact z r a b (by omega) e
theorem dm_I2 {d q count : Nat} (h : dm_I d q count) (q2 : 2 ≤ q) (hq : dm_P q) (hd : q ∣ d) : dm_I d (q + 1) (count / q * (q - 1)) := by
  obtain ⟨Q, F, t, h1, h2, h3, h4⟩ := h
  have hc : Nat.Coprime q Q := h3 q q2 hq (Nat.le_refl q)
  have ht : q ∣ t := Nat.Coprime.dvd_of_dvd_mul_right hc (h1 ▸ hd)
  obtain ⟨t', et⟩ := ht
  refine ⟨Q * q, F * (q - 1), t', ?_, ?_, fun r a b c => ?_, fun m => ?_⟩
  · rw [h1, et, Nat.mul_comm q t', Nat.mul_assoc, Nat.mul_comm q Q]
  · rw [h2, et, Nat.mul_assoc, Nat.mul_div_cancel_left _ (show 0 < q by omega), Nat.mul_assoc]
  · exact Nat.Coprime.mul_right (h3 r a b (by omega)) (dm_P_cop2 b a hq q2 (by omega))
  · have e1 : dm_cnt (fun j => dm_d (dm_free d q j)) (m * (Q * q)) = m * q * F := by
      rw [← h4 (m * q), Nat.mul_comm Q q, Nat.mul_assoc]
    have e2 : dm_cnt (fun j => dm_d (dm_free d q j) && dm_d (q ∣ j)) (m * (Q * q)) = m * F := by
      rw [← Nat.mul_assoc, dm_mult _ q (by omega) (fun i z => by
        rw [Bool.and_eq_true] at z
        exact dm_d_iff.mp z.2), ← h4 m]
      refine dm_cnt_congr _ (fun j _ => ?_)
      rw [Bool.eq_iff_iff, Bool.and_eq_true, dm_d_iff, dm_d_iff, dm_d_iff]
      constructor
      · intro ⟨z, _⟩ r a b c e w
        exact z r a b c e (Nat.dvd_mul_left_of_dvd w q)
      · intro z
        refine ⟨fun r a b c e w => z r a b c e ?_, Nat.dvd_mul_right q j⟩
        exact Nat.Coprime.dvd_of_dvd_mul_left (dm_P_cop2 b a hq q2 (by omega)) w
    have e3 : dm_cnt (fun j => dm_d (dm_free d (q + 1) j)) (m * (Q * q)) = dm_cnt (fun j => dm_d (dm_free d q j) && !dm_d (q ∣ j)) (m * (Q * q)) := by
      refine dm_cnt_congr _ (fun j _ => ?_)
      rw [Bool.eq_iff_iff, Bool.and_eq_true, dm_d_iff, dm_d_iff, Bool.not_eq_true', ← Bool.not_eq_true, dm_d_iff]
      constructor
      · intro z
        exact ⟨fun r a b c => z r a b (by omega), z q q2 hq (by omega) hd⟩
      · intro ⟨z, y⟩ r a b c e
        by_cases w : r = q
        · rw [w]; exact y
        · exact z r a b (by omega) e
    have e4 := dm_cnt_split (fun j => dm_d (dm_free d q j)) (fun j => dm_d (q ∣ j)) (m * (Q * q))
    have e5 : m * q * F = m * F + m * (F * (q - 1)) := by
      obtain ⟨k, rfl⟩ : ∃ k, q = k + 1 := ⟨q - 1, by omega⟩
      rw [Nat.add_sub_cancel, Nat.mul_right_comm, Nat.mul_add, Nat.mul_one, Nat.add_comm, Nat.mul_assoc m F k]
    rw [e3]
    rw [e1, e2] at e4
    omega
theorem dm_Ie {d count : Nat} (d0 : 0 < d) (h : dm_I d (d + 1) count) : count = dm_cnt (fun j => Nat.gcd j d == 1) d := by
  obtain ⟨Q, F, t, h1, h2, h3, h4⟩ := h
  rw [h2, ← h4 t, ← h1]
  refine dm_cnt_congr _ (fun j _ => ?_)
  rw [Bool.eq_iff_iff, dm_d_iff, beq_iff_eq]
  constructor
  · intro z
    by_cases w : Nat.gcd j d = 1
    · exact w
    · have hg : 0 < Nat.gcd j d := Nat.gcd_pos_of_pos_right j d0
      obtain ⟨q, a, b, e⟩ := dm_P_ex (n := Nat.gcd j d) (by omega)
      have hqd : q ∣ d := Nat.dvd_trans e (Nat.gcd_dvd_right j d)
      have := Nat.le_of_dvd d0 hqd
      exact absurd (Nat.dvd_trans e (Nat.gcd_dvd_left j d)) (z q a b (by omega) hqd)
  · intro z r a b c e w
    have := Nat.dvd_gcd w e
    rw [z] at this
    have := Nat.le_of_dvd (by omega) this
    omega
