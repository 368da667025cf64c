section
theorem pk_us {f : Nat → Int32} {k : Nat} {x : Int32} : upd f k x k = x := if_pos rfl
theorem pk_un {f : Nat → Int32} {k j : Nat} {x : Int32} (h : j ≠ k) : upd f k x j = f j := if_neg h
theorem pk_sub {a b : Nat} (h : b ≤ a) : nI a - nI b = nI (a - b) := by
  obtain ⟨c, rfl⟩ : ∃ c, a = c + b := ⟨a - b, by omega⟩
  rw [← nI_add, Int32.add_sub_cancel, Nat.add_sub_cancel]
theorem pk_m1 (n : Nat) : nI (n + 1) + (-1) = nI n := by
  rw [← nI_1, Int32.add_assoc, show (1 : Int32) + (-1) = 0 from rfl, Int32.add_zero]
theorem pk_mul (a b : Nat) : nI a * nI b = nI (a * b) := (Int32.ofNat_mul a b).symm
theorem pk_div {a d : Nat} (ha : a < 2 ^ 31) (h0 : 0 < d) (hd : d < 2 ^ 31) : nI a / nI d = nI (a / d) := by
  apply Int32.toInt_inj.mp
  rw [lg_idiv_nonneg (by rw [nI_toInt ha]; omega) (by rw [nI_toInt hd]; omega), nI_toInt ha, nI_toInt hd, nI_toInt (Nat.lt_of_le_of_lt (Nat.div_le_self a d) ha)]
  first | rfl | exact (Int.natCast_ediv _ _).symm
theorem pk_rem {a d : Nat} (ha : a < 2 ^ 31) (h0 : 0 < d) (hd : d < 2 ^ 31) : nI a - nI a / nI d * nI d = nI (a % d) := by
  rw [pk_div ha h0 hd, pk_mul, pk_sub (Nat.div_mul_le_self a d)]
  exact congrArg nI (by have := Nat.div_add_mod' a d; omega)
theorem pk_ix (x : Int32) {n : Nat} (hn : n < 2 ^ 31) : x < 0 ∨ nI n ≤ x ∨ ∃ j : Nat, j < n ∧ x = nI j := by
  by_cases h : x < 0
  · exact Or.inl h
  · obtain ⟨j, hj, rfl⟩ := nI_of h
    by_cases h2 : j < n
    · exact Or.inr (Or.inr ⟨j, h2, rfl⟩)
    · exact Or.inr (Or.inl (nI_le (by omega) hj))
theorem pk_le {x y : Int32} {A B : Prop} (a b : Nat) (f : a ≤ b → A) (g : b < a → B) (hx : x = nI a := by rfl) (hy : y = nI b := by rfl) (ha : a < 2 ^ 31 := by omega) (hb : b < 2 ^ 31 := by omega) : (x ≤ y → A) ∧ (¬ x ≤ y → B) := by
  subst hx hy
  rw [nI_leI ha hb]
  exact ⟨f, fun z => g (by omega)⟩
theorem pk_lt {x y : Int32} {A B : Prop} (a b : Nat) (f : a < b → A) (g : b ≤ a → B) (hx : x = nI a := by rfl) (hy : y = nI b := by rfl) (ha : a < 2 ^ 31 := by omega) (hb : b < 2 ^ 31 := by omega) : (x < y → A) ∧ (¬ x < y → B) := by
  subst hx hy
  rw [nI_ltI ha hb]
  exact ⟨f, fun z => g (by omega)⟩
theorem pk_eq {x y : Int32} {A B : Prop} (a b : Nat) (f : a = b → A) (g : a ≠ b → B) (hx : x = nI a := by rfl) (hy : y = nI b := by rfl) (ha : a < 2 ^ 31 := by omega) (hb : b < 2 ^ 31 := by omega) : (x = y → A) ∧ (¬ x = y → B) := by
  subst hx hy
  rw [nI_eq ha hb]
  exact ⟨f, g⟩
theorem pk_in {x : Int32} (n N : Nat) (h : n < N) (hx : x = nI n := by rfl) (hN : N < 2 ^ 31 := by omega) : vp_in x N := by
  subst hx
  exact vp_in_nI h hN
theorem pk_cl {x : Int32} (n : Nat) (hx : x = nI n := by rfl) (h : n < 2 ^ 31 := by omega) : x.toNatClampNeg = n := by
  subst hx
  exact nI_clamp h
theorem pk_tn {n : Nat} (h : n < 2 ^ 32) : (nI n).toBitVec.toNat = n := Nat.mod_eq_of_lt h
theorem pk_and (x : Int32) {m : Int32} (k : Nat) (hm : m.toBitVec.toNat = 2 ^ k - 1) : x &&& m = nI (x.toBitVec.toNat % 2 ^ k) := by
  apply Int32.toBitVec_inj.mp
  apply BitVec.eq_of_toNat_eq
  rw [Int32.toBitVec_and, BitVec.toNat_and, hm, Nat.and_two_pow_sub_one_eq_mod]
  show _ = (BitVec.ofNat 32 _).toNat
  rw [BitVec.toNat_ofNat]
  exact (Nat.mod_eq_of_lt (Nat.lt_of_le_of_lt (Nat.mod_le _ _) x.toBitVec.isLt)).symm
theorem pk_andN {n : Nat} (h : n < 2 ^ 32) {m : Int32} (k : Nat) (hm : m.toBitVec.toNat = 2 ^ k - 1) : nI n &&& m = nI (n % 2 ^ k) := by
  rw [pk_and _ k hm, pk_tn h]
theorem pk_shr (a s : Int32) (k : Nat) (hs : (s.toBitVec.smod 32).toNat = k) : (a >>> s).toInt = a.toInt >>> k := by
  show (a.toBitVec.sshiftRight (s.toBitVec.smod 32).toNat).toInt = _
  rw [hs, BitVec.toInt_sshiftRight]
  rfl
theorem pk_shrN {n : Nat} (h : n < 2 ^ 31) (s : Int32) (k : Nat) (hs : (s.toBitVec.smod 32).toNat = k) : nI n >>> s = nI (n / 2 ^ k) := by
  apply Int32.toInt_inj.mp
  have h2 : n / 2 ^ k ≤ n := Nat.div_le_self _ _
  rw [pk_shr _ _ k hs, nI_toInt h, nI_toInt (by omega), Int.shiftRight_eq_div_pow]
  rfl
theorem pk_least (P : Nat → Prop) (h : ∃ k, P k) : ∃ k, P k ∧ ∀ j, j < k → ¬ P j := by
  obtain ⟨k, hk⟩ := h
  induction k using Nat.strongRecOn with
  | ind k ih =>
    by_cases e : ∃ j, j < k ∧ P j
    · obtain ⟨j, hj, pj⟩ := e
      exact ih j hj pj
    · exact ⟨k, hk, fun j hj pj => e ⟨j, hj, pj⟩⟩
theorem s_l : ∀ n, n < 32 → ((nI n &&& 31).toBitVec.smod 32).toNat = n := by decide +kernel
end
section
-- counting below a bound, a bijection keeps a count
def dm_cnt (P : Nat → Bool) : Nat → Nat
  | 0 => 0
  | n + 1 => dm_cnt P n + (if P n = true then 1 else 0)
theorem dm_cnt_0 (P : Nat → Bool) : dm_cnt P 0 = 0 := rfl
theorem dm_cnt_s (P : Nat → Bool) (n : Nat) : dm_cnt P (n + 1) = dm_cnt P n + (if P n = true then 1 else 0) := rfl
theorem dm_cnt_t {P : Nat → Bool} {n : Nat} (h : P n = true) : dm_cnt P (n + 1) = dm_cnt P n + 1 := by
  rw [dm_cnt_s, if_pos h]
theorem dm_cnt_f {P : Nat → Bool} {n : Nat} (h : ¬ P n = true) : dm_cnt P (n + 1) = dm_cnt P n := by
  rw [dm_cnt_s, if_neg h, Nat.add_zero]
theorem dm_cnt_congr {P Q : Nat → Bool} (n : Nat) (h : ∀ i, i < n → P i = Q i) : dm_cnt P n = dm_cnt Q n := by
  induction n with
  | zero => rfl
  | succ n ih => rw [dm_cnt_s, dm_cnt_s, ih (fun i hi => h i (by omega)), h n (by omega)]
theorem dm_cnt_all {P : Nat → Bool} (n : Nat) (h : ∀ i, i < n → P i = true) : dm_cnt P n = n := by
  induction n with
  | zero => rfl
  | succ n ih => rw [dm_cnt_t (h n (by omega)), ih (fun i hi => h i (by omega))]
theorem dm_cnt_none {P : Nat → Bool} (n : Nat) (h : ∀ i, i < n → ¬ P i = true) : dm_cnt P n = 0 := by
  induction n with
  | zero => rfl
  | succ n ih => rw [dm_cnt_f (h n (by omega)), ih (fun i hi => h i (by omega))]
theorem dm_cnt_le (P : Nat → Bool) (n : Nat) : dm_cnt P n ≤ n := by
  induction n with
  | zero => exact Nat.le_refl 0
  | succ n ih =>
    rw [dm_cnt_s]
    by_cases h : P n = true
    · rw [if_pos h]; omega
    · rw [if_neg h]; omega
theorem dm_cnt_mem {P : Nat → Bool} (n i : Nat) (hi : i < n) (h : P i = true) : 0 < dm_cnt P n := by
  induction n with
  | zero => omega
  | succ n ih =>
    by_cases e : i = n
    · subst e; rw [dm_cnt_t h]; omega
    · have := ih (by omega)
      rw [dm_cnt_s]; omega
theorem dm_cnt_pos {P : Nat → Bool} (n : Nat) (h : 0 < dm_cnt P n) : ∃ i, i < n ∧ P i = true := by
  induction n with
  | zero => rw [dm_cnt_0] at h; omega
  | succ n ih =>
    by_cases e : P n = true
    · exact ⟨n, by omega, e⟩
    · rw [dm_cnt_f e] at h
      obtain ⟨i, a, b⟩ := ih h
      exact ⟨i, by omega, b⟩
theorem dm_cnt_put (Q : Nat → Bool) (m : Nat) (b : Bool) (n : Nat) (h : m < n) :
    dm_cnt (fun u => if u = m then b else Q u) n + (if Q m = true then 1 else 0) = dm_cnt Q n + (if b = true then 1 else 0) := by
  induction n with
  | zero => omega
  | succ n ih =>
    by_cases e : n = m
    · subst e
      have h1 : dm_cnt (fun u => if u = n then b else Q u) n = dm_cnt Q n :=
        dm_cnt_congr n (fun i hi => if_neg (by omega))
      have h2 : (if n = n then b else Q n) = b := if_pos rfl
      rw [dm_cnt_s, dm_cnt_s, h1, h2]
      omega
    · have h1 := ih (by omega)
      have h2 : (if n = m then b else Q n) = Q n := if_neg e
      rw [dm_cnt_s, dm_cnt_s, h2]
      omega
theorem dm_cnt_add (P : Nat → Bool) (a b : Nat) : dm_cnt P (a + b) = dm_cnt P a + dm_cnt (fun t => P (a + t)) b := by
  induction b with
  | zero => rfl
  | succ b ih =>
    rw [← Nat.add_assoc, dm_cnt_s, dm_cnt_s, ih, Nat.add_assoc]
theorem dm_if2 : ∀ b c : Bool, (if (b && c) = true then 1 else 0) + (if (b && !c) = true then 1 else 0) = (if b = true then 1 else 0 : Nat) := by decide
theorem dm_add4 {a b c x y z : Nat} (h : a + b = c) (k : x + y = z) : (a + x) + (b + y) = c + z := by omega
theorem dm_cnt_split (P Q : Nat → Bool) (n : Nat) :
    dm_cnt (fun j => P j && Q j) n + dm_cnt (fun j => P j && !Q j) n = dm_cnt P n := by
  induction n with
  | zero => rfl
  | succ n ih => exact dm_add4 ih (dm_if2 (P n) (Q n))
theorem dm_first {P : Nat → Bool} (b : Nat) (hb : 0 < b) (h : ∀ t, 0 < t → t < b → ¬ P t = true) :
    dm_cnt P b = if P 0 = true then 1 else 0 := by
  induction b with
  | zero => omega
  | succ b ih =>
    by_cases e : b = 0
    · subst e; rw [dm_cnt_s, dm_cnt_0, Nat.zero_add]
    · rw [dm_cnt_f (h b (by omega) (by omega)), ih (by omega) (fun t a c => h t a (by omega))]
theorem dm_mult (P : Nat → Bool) (e : Nat) (he : 0 < e) (h : ∀ i, P i = true → e ∣ i) (d : Nat) :
    dm_cnt P (d * e) = dm_cnt (fun j => P (e * j)) d := by
  induction d with
  | zero => rw [Nat.zero_mul]; rfl
  | succ d ih =>
    have h1 : dm_cnt (fun t => P (d * e + t)) e = if P (d * e + 0) = true then 1 else 0 :=
      dm_first (P := fun t => P (d * e + t)) e he (fun t a b c => by
        have h2 : e ∣ d * e + t := h _ c
        have h3 : e ∣ t := (Nat.dvd_add_right (Nat.dvd_mul_left e d)).mp h2
        have h4 := Nat.le_of_dvd a h3
        omega)
    rw [Nat.add_mul, Nat.one_mul, dm_cnt_add, ih, h1, dm_cnt_s, Nat.add_zero, Nat.mul_comm d e]
theorem dm_bij (n : Nat) : ∀ (f : Nat → Nat) (Q : Nat → Bool), (∀ i, i < n → f i < n) →
    (∀ i j, i < n → j < n → f i = f j → i = j) → dm_cnt Q n = dm_cnt (fun i => Q (f i)) n := by
  induction n with
  | zero => intros; rfl
  | succ n ih =>
    intro f Q hf hi
    have hm : f n < n + 1 := hf n (by omega)
    by_cases e : f n = n
    · have h1 := ih f Q (fun i hi' => by
          have a := hf i (by omega)
          have b : f i ≠ n := fun z => by
            have := hi i n (by omega) (by omega) (z.trans e.symm)
            omega
          omega) (fun i j a b c => hi i j (by omega) (by omega) c)
      have h2 : Q (f n) = Q n := by rw [e]
      rw [dm_cnt_s, dm_cnt_s, h1, h2]
    · have h1 := ih (fun i => if f i = n then f n else f i) (fun u => if u = f n then Q n else Q u)
        (fun i hi' => by
          have a := hf i (by omega)
          show (if f i = n then f n else f i) < n
          by_cases z : f i = n
          · rw [if_pos z]; omega
          · rw [if_neg z]; omega)
        (fun i j a b c => by
          have c' : (if f i = n then f n else f i) = (if f j = n then f n else f j) := c
          have ni : ∀ k, k < n → f k ≠ f n := fun k hk z => by
            have := hi k n (by omega) (by omega) z
            omega
          by_cases z : f i = n
          · by_cases w : f j = n
            · exact hi i j (by omega) (by omega) (z.trans w.symm)
            · rw [if_pos z, if_neg w] at c'
              exact absurd c'.symm (ni j b)
          · by_cases w : f j = n
            · rw [if_neg z, if_pos w] at c'
              exact absurd c' (ni i a)
            · rw [if_neg z, if_neg w] at c'
              exact hi i j (by omega) (by omega) c')
      have h2 : dm_cnt (fun i => Q (f i)) n = dm_cnt (fun i => (fun u => if u = f n then Q n else Q u) ((fun i => if f i = n then f n else f i) i)) n :=
        dm_cnt_congr n (fun i hi' => by
          show Q (f i) = if (if f i = n then f n else f i) = f n then Q n else Q (if f i = n then f n else f i)
          by_cases z : f i = n
          · rw [if_pos z, if_pos rfl, z]
          · rw [if_neg z, if_neg (fun w => by
              have := hi i n (by omega) (by omega) w
              omega)])
      have h3 := dm_cnt_put Q (f n) (Q n) n (by omega)
      rw [dm_cnt_s, dm_cnt_s, h2, ← h1]
      show dm_cnt Q n + (if Q n = true then 1 else 0) = dm_cnt (fun u => if u = f n then Q n else Q u) n + (if Q (f n) = true then 1 else 0)
      exact h3.symm
theorem dm_surj (n : Nat) (f : Nat → Nat) (hf : ∀ i, i < n → f i < n)
    (hi : ∀ i j, i < n → j < n → f i = f j → i = j) (u : Nat) (hu : u < n) : ∃ i, i < n ∧ f i = u := by
  have h := dm_bij n f (fun x => x == u) hf hi
  have h2 : 0 < dm_cnt (fun x => x == u) n := dm_cnt_mem n u hu (by simp)
  rw [h] at h2
  obtain ⟨i, a, b⟩ := dm_cnt_pos n h2
  exact ⟨i, a, by simpa using b⟩
noncomputable def dm_d (a : Prop) : Bool := @decide a (Classical.propDecidable a)
theorem dm_d_iff {a : Prop} : dm_d a = true ↔ a := @decide_eq_true_iff a (Classical.propDecidable a)
theorem dm_d_congr {a b : Prop} (h : a ↔ b) : dm_d a = dm_d b := by rw [propext h]
end
section
-- powers modulo p, orders, a generator
def dm_O (p u o : Nat) : Prop := 0 < o ∧ ∀ x, u ^ x % p = 1 ↔ o ∣ x
theorem dm_O_one {p u o : Nat} (h : dm_O p u o) : u ^ o % p = 1 := (h.2 o).mpr (Nat.dvd_refl o)
theorem dm_O_not {p u o x : Nat} (h : dm_O p u o) (h0 : 0 < x) (hx : x < o) : u ^ x % p ≠ 1 := fun z => by
  have := Nat.le_of_dvd h0 ((h.2 x).mp z)
  omega
theorem dm_O_of {p u o : Nat} (hp : 1 < p) (h0 : 0 < o) (h1 : u ^ o % p = 1)
    (h2 : ∀ x, 0 < x → x < o → u ^ x % p ≠ 1) : dm_O p u o := by
  have hk : ∀ k, (u ^ o) ^ k % p = 1 := fun k => by
    rw [Nat.pow_mod, h1, Nat.one_pow, Nat.mod_eq_of_lt hp]
  have hx : ∀ x, u ^ x % p = u ^ (x % o) % p := fun x => by
    have e : u ^ x = (u ^ o) ^ (x / o) * u ^ (x % o) := by
      rw [← Nat.pow_mul, ← Nat.pow_add, Nat.div_add_mod]
    rw [e, Nat.mul_mod, hk, Nat.one_mul, Nat.mod_mod]
  refine ⟨h0, fun x => ⟨fun h => ?_, fun h => ?_⟩⟩
  · rw [hx x] at h
    by_cases z : x % o = 0
    · exact Nat.dvd_of_mod_eq_zero z
    · exact absurd h (h2 _ (by omega) (Nat.mod_lt _ h0))
  · obtain ⟨k, e⟩ := h
    rw [e, Nat.pow_mul]
    exact hk k
theorem dm_O_uniq {p u a b : Nat} (h : dm_O p u a) (k : dm_O p u b) : a = b :=
  Nat.dvd_antisymm ((h.2 b).mp (dm_O_one k)) ((k.2 a).mp (dm_O_one h))
theorem dm_O_ex {p u n : Nat} (hp : 1 < p) (hn : 0 < n) (h : u ^ n % p = 1) : ∃ o, dm_O p u o := by
  obtain ⟨o, ⟨h0, h1⟩, h2⟩ := pk_least (fun x => 0 < x ∧ u ^ x % p = 1) ⟨n, hn, h⟩
  exact ⟨o, dm_O_of hp h0 h1 (fun x a b c => h2 x b ⟨a, c⟩)⟩
noncomputable def dm_ord (p u : Nat) : Nat := Classical.epsilon (fun o => dm_O p u o)
theorem dm_ord_eq {p u o : Nat} (h : dm_O p u o) : dm_ord p u = o :=
  dm_O_uniq (Classical.epsilon_spec (p := fun o => dm_O p u o) ⟨o, h⟩) h
theorem dm_pp (p c i x : Nat) : (c ^ i % p) ^ x % p = c ^ (i * x) % p := by
  rw [← Nat.pow_mod, ← Nat.pow_mul]
theorem dm_ps (p g x : Nat) : g ^ x % p * g % p = g ^ (x + 1) % p := by
  rw [Nat.mod_mul_mod, ← Nat.pow_succ]
theorem dm_per {p u o : Nat} (h : dm_O p u o) (x : Nat) : u ^ x % p = u ^ (x % o) % p := by
  have e : u ^ x = u ^ (o * (x / o)) * u ^ (x % o) := by
    rw [← Nat.pow_add, Nat.div_add_mod]
  rw [e, Nat.mul_mod, (h.2 (o * (x / o))).mpr (Nat.dvd_mul_right o _), Nat.one_mul, Nat.mod_mod]
theorem dm_inj1 {p c o i j : Nat} (h : dm_O p c o) (hij : i ≤ j) (hj : j < o) (e : c ^ i % p = c ^ j % p) : i = j := by
  have b : (c ^ j * c ^ (o - i)) % p = 1 := by
    rw [Nat.mul_mod, ← e, ← Nat.mul_mod, ← Nat.pow_add, Nat.add_sub_cancel' (by omega)]
    exact dm_O_one h
  have c' : c ^ j * c ^ (o - i) = c ^ o * c ^ (j - i) := by
    rw [← Nat.pow_add, ← Nat.pow_add]
    congr 1
    omega
  rw [c', Nat.mul_mod, dm_O_one h, Nat.one_mul, Nat.mod_mod] at b
  have := Nat.eq_zero_of_dvd_of_lt ((h.2 _).mp b) (by omega)
  omega
theorem dm_inj {p c o i j : Nat} (h : dm_O p c o) (hi : i < o) (hj : j < o) (e : c ^ i % p = c ^ j % p) : i = j := by
  by_cases hij : i ≤ j
  · exact dm_inj1 h hij hj e
  · exact (dm_inj1 h (by omega) hi e.symm).symm
theorem dm_nz {p c o i : Nat} (h : dm_O p c o) (hi : i ≤ o) : c ^ i % p ≠ 0 := fun z => by
  have a := dm_O_one h
  have e : c ^ o = c ^ i * c ^ (o - i) := by rw [← Nat.pow_add, Nat.add_sub_cancel' hi]
  rw [e, Nat.mul_mod, z, Nat.zero_mul, Nat.zero_mod] at a
  omega
-- c is a generator modulo p
theorem dm_log {p c u : Nat} (hp : 2 < p) (h : dm_O p c (p - 1)) (h1 : 0 < u) (hu : u < p) :
    ∃ i, i < p - 1 ∧ c ^ i % p = u := by
  obtain ⟨i, a, b⟩ := dm_surj (p - 1) (fun i => c ^ i % p - 1)
    (fun i hi => by
      have := dm_nz h (Nat.le_of_lt hi)
      have := Nat.mod_lt (c ^ i) (show 0 < p by omega)
      show c ^ i % p - 1 < p - 1
      omega)
    (fun i j hi hj e => dm_inj h hi hj (by
      have := dm_nz h (Nat.le_of_lt hi)
      have := dm_nz h (Nat.le_of_lt hj)
      have e' : c ^ i % p - 1 = c ^ j % p - 1 := e
      omega)) (u - 1) (by omega)
  have b' : c ^ i % p - 1 = u - 1 := b
  have := dm_nz h (Nat.le_of_lt a)
  exact ⟨i, a, by omega⟩
theorem dm_fermat {p c u : Nat} (hp : 2 < p) (h : dm_O p c (p - 1)) (h1 : 0 < u) (hu : u < p) : u ^ (p - 1) % p = 1 := by
  obtain ⟨i, _, e⟩ := dm_log hp h h1 hu
  rw [← e, dm_pp]
  exact (h.2 _).mpr (Nat.dvd_mul_left _ _)
theorem dm_unit_O {p c u : Nat} (hp : 2 < p) (h : dm_O p c (p - 1)) (h1 : 0 < u) (hu : u < p) :
    dm_O p u (dm_ord p u) ∧ dm_ord p u ∣ p - 1 := by
  have f := dm_fermat hp h h1 hu
  obtain ⟨o, ho⟩ := dm_O_ex (by omega) (by omega) f
  rw [dm_ord_eq ho]
  exact ⟨ho, (ho.2 _).mp f⟩
theorem dm_dv' {g i n x : Nat} (hg : 0 < g) (hc : Nat.Coprime i n) : g * n ∣ g * i * x ↔ n ∣ x := by
  rw [Nat.mul_assoc, Nat.mul_dvd_mul_iff_left hg]
  exact ⟨fun h => Nat.Coprime.dvd_of_dvd_mul_left hc.symm h, fun h => Nat.dvd_mul_left_of_dvd h i⟩
theorem dm_dv {n i x : Nat} (hn : 0 < n) : n ∣ i * x ↔ n / Nat.gcd i n ∣ x := by
  have hg : 0 < Nat.gcd i n := Nat.gcd_pos_of_pos_right i hn
  have h := dm_dv' (x := x) hg (Nat.coprime_div_gcd_div_gcd hg)
  rw [Nat.mul_div_cancel' (Nat.gcd_dvd_left i n), Nat.mul_div_cancel' (Nat.gcd_dvd_right i n)] at h
  exact h
theorem dm_O_pow {p c n : Nat} (h : dm_O p c n) (i : Nat) : dm_O p (c ^ i % p) (n / Nat.gcd i n) :=
  ⟨Nat.div_pos (Nat.gcd_le_right i h.1) (Nat.gcd_pos_of_pos_right i h.1), fun x => by
    rw [dm_pp, h.2, dm_dv h.1]⟩
theorem dm_ord_pow {p c n : Nat} (h : dm_O p c n) (i : Nat) : dm_ord p (c ^ i % p) = n / Nat.gcd i n :=
  dm_ord_eq (dm_O_pow h i)
-- how many units have order d
theorem dm_ordcount {p c d e : Nat} (hp : 2 < p) (h : dm_O p c (p - 1)) (hd : p - 1 = d * e) :
    dm_cnt (fun i => dm_ord p (i + 1) == d) (p - 1) = dm_cnt (fun j => Nat.gcd j d == 1) d := by
  have hde : 0 < d * e := by omega
  have he : 0 < e := Nat.pos_of_mul_pos_left hde
  have hd0 : 0 < d := Nat.pos_of_mul_pos_right hde
  have h0 := dm_bij (p - 1) (fun i => c ^ i % p - 1) (fun i => dm_ord p (i + 1) == d)
    (fun i hi => by
      have := dm_nz h (Nat.le_of_lt hi)
      have := Nat.mod_lt (c ^ i) (show 0 < p by omega)
      show c ^ i % p - 1 < p - 1
      omega)
    (fun i j hi hj e => dm_inj h hi hj (by
      have := dm_nz h (Nat.le_of_lt hi)
      have := dm_nz h (Nat.le_of_lt hj)
      have e' : c ^ i % p - 1 = c ^ j % p - 1 := e
      omega))
  have h1 : dm_cnt (fun i => (fun i => dm_ord p (i + 1) == d) ((fun i => c ^ i % p - 1) i)) (p - 1) = dm_cnt (fun i => Nat.gcd i (d * e) == e) (p - 1) :=
    dm_cnt_congr (p - 1) (fun i hi => by
      have z := dm_nz h (Nat.le_of_lt hi)
      show (dm_ord p (c ^ i % p - 1 + 1) == d) = (Nat.gcd i (d * e) == e)
      rw [Nat.sub_add_cancel (by omega), dm_ord_pow h, hd]
      have hg : Nat.gcd i (d * e) * (d * e / Nat.gcd i (d * e)) = d * e := Nat.mul_div_cancel' (Nat.gcd_dvd_right i _)
      have hgp : 0 < Nat.gcd i (d * e) := Nat.gcd_pos_of_pos_right i hde
      rw [Bool.eq_iff_iff, beq_iff_eq, beq_iff_eq]
      constructor
      · intro q
        rw [q] at hg
        exact Nat.eq_of_mul_eq_mul_right hd0 (hg.trans (Nat.mul_comm d e))
      · intro q
        rw [q]
        exact Nat.mul_div_cancel d he)
  have h2 := dm_mult (fun i => Nat.gcd i (d * e) == e) e he (fun i q => by
    have q' : Nat.gcd i (d * e) = e := by simpa using q
    have q2 := Nat.gcd_dvd_left i (d * e)
    rw [q'] at q2
    exact q2) d
  rw [hd] at h0 h1 ⊢
  refine h0.trans (h1.trans (h2.trans ?_))
  refine dm_cnt_congr d (fun j _ => ?_)
  show (Nat.gcd (e * j) (d * e) == e) = (Nat.gcd j d == 1)
  rw [Nat.mul_comm d e, Nat.gcd_mul_left, Bool.eq_iff_iff, beq_iff_eq, beq_iff_eq]
  constructor
  · intro q
    exact Nat.eq_of_mul_eq_mul_left he (q.trans (Nat.mul_one e).symm)
  · intro q
    rw [q, Nat.mul_one]
theorem dm_ordcount0 {p c d : Nat} (hp : 2 < p) (h : dm_O p c (p - 1)) (hd : ¬ d ∣ p - 1) :
    dm_cnt (fun i => dm_ord p (i + 1) == d) (p - 1) = 0 :=
  dm_cnt_none _ (fun i hi z => by
    have z' : dm_ord p (i + 1) = d := by simpa using z
    exact hd (z' ▸ (dm_unit_O hp h (by omega) (by omega)).2))
-- the powers of g are the units u with u to the order of g = 1
theorem dm_bez {a n : Nat} (hn : 0 < n) (hc : Nat.Coprime a n) : ∃ y, a * y % n = 1 % n := by
  obtain ⟨y, _, e⟩ := dm_surj n (fun y => a * y % n) (fun y _ => Nat.mod_lt _ hn)
    (fun i j hi hj e => by
      have key : ∀ i j, i ≤ j → j < n → a * i % n = a * j % n → i = j := fun i j hij hj e => by
        have h1 : n ∣ a * j - a * i := Nat.dvd_of_mod_eq_zero (Nat.sub_mod_eq_zero_of_mod_eq e.symm)
        rw [← Nat.mul_sub] at h1
        have h2 := Nat.Coprime.dvd_of_dvd_mul_left hc.symm h1
        have := Nat.eq_zero_of_dvd_of_lt h2 (by omega)
        omega
      by_cases hij : i ≤ j
      · exact key i j hij hj e
      · exact (key j i (by omega) hi e.symm).symm) (1 % n) (Nat.mod_lt _ hn)
  exact ⟨y, e⟩
theorem dm_bezg {a n : Nat} (hn : 0 < n) : ∃ y, a * y % n = Nat.gcd a n % n := by
  have hg : 0 < Nat.gcd a n := Nat.gcd_pos_of_pos_right a hn
  have hc := Nat.coprime_div_gcd_div_gcd hg
  have hd : 0 < n / Nat.gcd a n := Nat.div_pos (Nat.gcd_le_right a hn) hg
  obtain ⟨y, e⟩ := dm_bez hd hc
  refine ⟨y, ?_⟩
  have e2 : Nat.gcd a n * (a / Nat.gcd a n * y % (n / Nat.gcd a n)) = Nat.gcd a n * (1 % (n / Nat.gcd a n)) := by rw [e]
  rw [← Nat.mul_mod_mul_left, ← Nat.mul_mod_mul_left, ← Nat.mul_assoc, Nat.mul_div_cancel' (Nat.gcd_dvd_left a n),
    Nat.mul_div_cancel' (Nat.gcd_dvd_right a n), Nat.mul_one] at e2
  exact e2
theorem dm_cyc {p c g u og : Nat} (hp : 2 < p) (h : dm_O p c (p - 1)) (g1 : 0 < g) (gp : g < p) (u1 : 0 < u) (up : u < p)
    (ho : dm_O p g og) : (∃ y, y < p - 1 ∧ g ^ y % p = u) ↔ u ^ og % p = 1 := by
  constructor
  · intro ⟨y, _, e⟩
    rw [← e, dm_pp]
    exact (ho.2 _).mpr (Nat.dvd_mul_left _ _)
  · intro e
    obtain ⟨i, hi, ei⟩ := dm_log hp h u1 up
    obtain ⟨a, ha, ea⟩ := dm_log hp h g1 gp
    have hn : 0 < p - 1 := by omega
    have eo : og = (p - 1) / Nat.gcd a (p - 1) := by
      rw [← ea] at ho
      exact dm_O_uniq ho (dm_O_pow h a)
    have en : Nat.gcd a (p - 1) * og = p - 1 := by rw [eo]; exact Nat.mul_div_cancel' (Nat.gcd_dvd_right a _)
    rw [← ei, dm_pp] at e
    have h1 : p - 1 ∣ i * og := (h.2 _).mp e
    rw [← en] at h1
    have h2 : Nat.gcd a (p - 1) ∣ i := Nat.dvd_of_mul_dvd_mul_right ho.1 h1
    obtain ⟨k, ek⟩ := h2
    obtain ⟨y, ey⟩ := dm_bezg (a := a) hn
    have h3 : g ^ (y * k) % p = u := by
      rw [← ea, dm_pp, dm_per h, ← ei, dm_per h i]
      congr 2
      rw [← Nat.mul_assoc, Nat.mul_mod, ey, ← Nat.mul_mod, ← ek]
    have f : dm_O p g og := ho
    have hg := dm_fermat hp h g1 gp
    have h4 : (og ∣ p - 1) := (ho.2 _).mp hg
    refine ⟨(y * k) % og, Nat.lt_of_lt_of_le (Nat.mod_lt _ ho.1) (Nat.le_of_dvd hn h4), ?_⟩
    rw [← dm_per ho]
    exact h3
-- common: a count of x below the order of h
theorem dm_blocks (o k : Nat) (ho : 0 < o) : dm_cnt (fun x => dm_d (o ∣ x + 1)) (k * o) = k := by
  induction k with
  | zero => rw [Nat.zero_mul]; rfl
  | succ k ih =>
    rw [Nat.add_mul, Nat.one_mul, dm_cnt_add, ih]
    have h1 : dm_cnt (fun t => dm_d (o ∣ k * o + t + 1)) o = 1 := by
      obtain ⟨q, rfl⟩ : ∃ q, o = q + 1 := ⟨o - 1, by omega⟩
      have t : dm_d (q + 1 ∣ k * (q + 1) + q + 1) = true := dm_d_iff.mpr
        ⟨k + 1, by rw [Nat.add_assoc, Nat.mul_comm k (q + 1), Nat.mul_add (q + 1) k 1, Nat.mul_one]⟩
      rw [dm_cnt_t (P := fun t => dm_d (q + 1 ∣ k * (q + 1) + t + 1)) t, dm_cnt_none (P := fun t => dm_d (q + 1 ∣ k * (q + 1) + t + 1)) q (fun i hi z => by
        have z' : q + 1 ∣ k * (q + 1) + i + 1 := dm_d_iff.mp z
        rw [Nat.add_assoc] at z'
        have z2 := (Nat.dvd_add_right (Nat.dvd_mul_left (q + 1) k)).mp z'
        have := Nat.le_of_dvd (by omega) z2
        omega)]
    exact congrArg (k + ·) h1
theorem dm_common {p c g h og oh : Nat} (hp : 2 < p) (G : dm_O p c (p - 1)) (g1 : 0 < g) (gp : g < p) (h1 : 0 < h) (hp' : h < p)
    (hg : dm_O p g og) (hh : dm_O p h oh) :
    dm_cnt (fun x => dm_d (∃ y, y < p - 1 ∧ g ^ y % p = h ^ (x + 1) % p)) oh = Nat.gcd og oh := by
  have hk : 0 < Nat.gcd og oh := Nat.gcd_pos_of_pos_right og hh.1
  have e1 : dm_cnt (fun x => dm_d (∃ y, y < p - 1 ∧ g ^ y % p = h ^ (x + 1) % p)) oh = dm_cnt (fun x => dm_d (oh / Nat.gcd og oh ∣ x + 1)) oh :=
    dm_cnt_congr oh (fun x hx => dm_d_congr (by
      rw [dm_cyc hp G g1 gp (Nat.pos_of_ne_zero (dm_nz hh (by omega))) (Nat.mod_lt _ (by omega)) hg, dm_pp, hh.2, Nat.mul_comm, dm_dv hh.1]))
  have e2 : oh = Nat.gcd og oh * (oh / Nat.gcd og oh) := (Nat.mul_div_cancel' (Nat.gcd_dvd_right og oh)).symm
  rw [e1]
  have e3 := dm_blocks (oh / Nat.gcd og oh) (Nat.gcd og oh) (Nat.div_pos (Nat.gcd_le_right og hh.1) hk)
  rw [← e2] at e3
  exact e3
-- the inverse
theorem dm_inv {p g y z : Nat} (hy : y < p) (hz : z < p) (ey : g * y % p = 1) (ez : g * z % p = 1) : y = z := by
  have a : y * (g * z) % p = y := by rw [Nat.mul_mod, ez, Nat.mul_one, Nat.mod_mod, Nat.mod_eq_of_lt hy]
  have b : y * (g * z) % p = z := by
    rw [← Nat.mul_assoc, Nat.mul_comm y g, Nat.mul_mod, ey, Nat.one_mul, Nat.mod_mod, Nat.mod_eq_of_lt hz]
  exact a.symm.trans b
theorem dm_invp {p c g : Nat} (hp : 2 < p) (h : dm_O p c (p - 1)) (h1 : 0 < g) (hg : g < p) : g * (g ^ (p - 2) % p) % p = 1 := by
  rw [Nat.mul_mod_mod, ← Nat.pow_add_one', show p - 2 + 1 = p - 1 by omega]
  exact dm_fermat hp h h1 hg
end
section
-- primes, the count of what is prime to d
def dm_P (q : Nat) : Prop := ∀ d, 2 ≤ d → d < q → q % d ≠ 0
theorem dm_P_dvd {q d : Nat} (h : dm_P q) (hq : 2 ≤ q) (hd : d ∣ q) : d = 1 ∨ d = q := by
  have h1 := Nat.le_of_dvd (by omega) hd
  have h0 : 0 < d := Nat.pos_of_dvd_of_pos hd (by omega)
  by_cases a : d = 1
  · exact Or.inl a
  · by_cases b : d = q
    · exact Or.inr b
    · exact absurd (Nat.mod_eq_zero_of_dvd hd) (h d (by omega) (by omega))
theorem dm_P_cop {q r : Nat} (hq : dm_P q) (q2 : 2 ≤ q) (h : ¬ q ∣ r) : Nat.Coprime q r := by
  rcases dm_P_dvd hq q2 (Nat.gcd_dvd_left q r) with e | e
  · exact e
  · exact absurd (e ▸ Nat.gcd_dvd_right q r) h
theorem dm_P_cop2 {q r : Nat} (hq : dm_P q) (q2 : 2 ≤ q) (hr : dm_P r) (r2 : 2 ≤ r) (h : q ≠ r) : Nat.Coprime q r :=
  dm_P_cop hq q2 (fun z => by
    rcases dm_P_dvd hr r2 z with e | e
    · omega
    · exact h e)
theorem dm_P_ex {n : Nat} (hn : 2 ≤ n) : ∃ q, 2 ≤ q ∧ dm_P q ∧ q ∣ n := by
  obtain ⟨q, ⟨h1, h2⟩, h3⟩ := pk_least (fun q => 2 ≤ q ∧ q ∣ n) ⟨n, hn, Nat.dvd_refl n⟩
  exact ⟨q, h1, fun d a b c => h3 d b ⟨a, Nat.dvd_trans (Nat.dvd_of_mod_eq_zero c) h2⟩, h2⟩
def dm_free (d q j : Nat) : Prop := ∀ r, 2 ≤ r → dm_P r → r < q → r ∣ d → ¬ r ∣ j
def dm_I (d q count : Nat) : Prop := ∃ Q F t, d = t * Q ∧ count = t * F ∧
  (∀ r, 2 ≤ r → dm_P r → q ≤ r → Nat.Coprime r Q) ∧ ∀ m, dm_cnt (fun j => dm_d (dm_free d q j)) (m * Q) = m * F
theorem dm_I0 (d : Nat) : dm_I d 2 d :=
  ⟨1, 1, d, (Nat.mul_one d).symm, (Nat.mul_one d).symm, fun r _ _ _ => Nat.coprime_one_right r, fun m =>
    dm_cnt_all _ (fun j _ => dm_d_iff.mpr (fun r a _ b => by omega))⟩
theorem dm_I1 {d q count : Nat} (h : dm_I d q count) (hn : ¬ (dm_P q ∧ q ∣ d)) : dm_I d (q + 1) count := by
  obtain ⟨Q, F, t, h1, h2, h3, h4⟩ := h
  refine ⟨Q, F, t, h1, h2, fun r a b c => h3 r a b (by omega), fun m => ?_⟩
  rw [← h4 m]
  refine dm_cnt_congr _ (fun j _ => dm_d_congr ⟨fun z r a b c => z r a b (by omega), fun z r a b c e => ?_⟩)
  by_cases w : r = q
  · exact absurd ⟨w ▸ b, w ▸ e⟩ hn
  · exact z r a b (by omega) e
theorem dm_I2 {d q count : Nat} (h : dm_I d q count) (q2 : 2 ≤ q) (hq : dm_P q) (hd : q ∣ d) : dm_I d (q + 1) (count / q * (q - 1)) := by
  obtain ⟨Q, F, t, h1, h2, h3, h4⟩ := h
  have hc : Nat.Coprime q Q := h3 q q2 hq (Nat.le_refl q)
  have ht : q ∣ t := Nat.Coprime.dvd_of_dvd_mul_right hc (h1 ▸ hd)
  obtain ⟨t', et⟩ := ht
  refine ⟨Q * q, F * (q - 1), t', ?_, ?_, fun r a b c => ?_, fun m => ?_⟩
  · rw [h1, et, Nat.mul_comm q t', Nat.mul_assoc, Nat.mul_comm q Q]
  · rw [h2, et, Nat.mul_assoc, Nat.mul_div_cancel_left _ (show 0 < q by omega), Nat.mul_assoc]
  · exact Nat.Coprime.mul_right (h3 r a b (by omega)) (dm_P_cop2 b a hq q2 (by omega))
  · have e1 : dm_cnt (fun j => dm_d (dm_free d q j)) (m * (Q * q)) = m * q * F := by
      rw [← h4 (m * q), Nat.mul_comm Q q, Nat.mul_assoc]
    have e2 : dm_cnt (fun j => dm_d (dm_free d q j) && dm_d (q ∣ j)) (m * (Q * q)) = m * F := by
      rw [← Nat.mul_assoc, dm_mult _ q (by omega) (fun i z => by
        rw [Bool.and_eq_true] at z
        exact dm_d_iff.mp z.2), ← h4 m]
      refine dm_cnt_congr _ (fun j _ => ?_)
      rw [Bool.eq_iff_iff, Bool.and_eq_true, dm_d_iff, dm_d_iff, dm_d_iff]
      constructor
      · intro ⟨z, _⟩ r a b c e w
        exact z r a b c e (Nat.dvd_mul_left_of_dvd w q)
      · intro z
        refine ⟨fun r a b c e w => z r a b c e ?_, Nat.dvd_mul_right q j⟩
        exact Nat.Coprime.dvd_of_dvd_mul_left (dm_P_cop2 b a hq q2 (by omega)) w
    have e3 : dm_cnt (fun j => dm_d (dm_free d (q + 1) j)) (m * (Q * q)) = dm_cnt (fun j => dm_d (dm_free d q j) && !dm_d (q ∣ j)) (m * (Q * q)) := by
      refine dm_cnt_congr _ (fun j _ => ?_)
      rw [Bool.eq_iff_iff, Bool.and_eq_true, dm_d_iff, dm_d_iff, Bool.not_eq_true', ← Bool.not_eq_true, dm_d_iff]
      constructor
      · intro z
        exact ⟨fun r a b c => z r a b (by omega), z q q2 hq (by omega) hd⟩
      · intro ⟨z, y⟩ r a b c e
        by_cases w : r = q
        · rw [w]; exact y
        · exact z r a b (by omega) e
    have e4 := dm_cnt_split (fun j => dm_d (dm_free d q j)) (fun j => dm_d (q ∣ j)) (m * (Q * q))
    have e5 : m * q * F = m * F + m * (F * (q - 1)) := by
      obtain ⟨k, rfl⟩ : ∃ k, q = k + 1 := ⟨q - 1, by omega⟩
      rw [Nat.add_sub_cancel, Nat.mul_right_comm, Nat.mul_add, Nat.mul_one, Nat.add_comm, Nat.mul_assoc m F k]
    rw [e3]
    rw [e1, e2] at e4
    omega
theorem dm_Ie {d count : Nat} (d0 : 0 < d) (h : dm_I d (d + 1) count) : count = dm_cnt (fun j => Nat.gcd j d == 1) d := by
  obtain ⟨Q, F, t, h1, h2, h3, h4⟩ := h
  rw [h2, ← h4 t, ← h1]
  refine dm_cnt_congr _ (fun j _ => ?_)
  rw [Bool.eq_iff_iff, dm_d_iff, beq_iff_eq]
  constructor
  · intro z
    by_cases w : Nat.gcd j d = 1
    · exact w
    · have hg : 0 < Nat.gcd j d := Nat.gcd_pos_of_pos_right j d0
      obtain ⟨q, a, b, e⟩ := dm_P_ex (n := Nat.gcd j d) (by omega)
      have hqd : q ∣ d := Nat.dvd_trans e (Nat.gcd_dvd_right j d)
      have := Nat.le_of_dvd d0 hqd
      exact absurd (Nat.dvd_trans e (Nat.gcd_dvd_left j d)) (z q a b (by omega) hqd)
  · intro z r a b c e w
    have := Nat.dvd_gcd w e
    rw [z] at this
    have := Nat.le_of_dvd (by omega) this
    omega
end
section
-- every prime from 3 to 2039 has a generator
def dm_comp (p : Nat) : Nat → Bool
  | 0 => false
  | k + 1 => dm_comp p k || (Nat.blt (k + 2) p && Nat.beq (p % (k + 2)) 0)
def dm_gen (p c : Nat) : Nat → Bool
  | 0 => true
  | k + 1 => dm_gen p c k && (!Nat.beq ((p - 1) % (k + 1)) 0 ||
      ((Nat.beq (k + 1) (p - 1) || !Nat.beq (c ^ (k + 1) % p) 1) && (Nat.beq k 0 || !Nat.beq (c ^ ((p - 1) / (k + 1)) % p) 1)))
def dm_ok (p : Nat) : Bool :=
  Nat.blt p 3 || dm_comp p 44 || [2, 3, 5, 6, 7, 11, 10, 13, 17, 14, 19, 21, 15].any (fun c => Nat.beq (c ^ (p - 1) % p) 1 && dm_gen p c 45)
theorem dm_comp_t {p : Nat} (k : Nat) (h : dm_comp p k = true) : ∃ d, 2 ≤ d ∧ d < p ∧ p % d = 0 := by
  induction k with
  | zero => exact absurd h (by simp [dm_comp])
  | succ k ih =>
    rw [dm_comp, Bool.or_eq_true, Bool.and_eq_true] at h
    rcases h with h | ⟨a, b⟩
    · exact ih h
    · exact ⟨k + 2, by omega, by simpa [Nat.blt_eq] using a, by simpa using b⟩
theorem dm_gen_t {p c : Nat} (k : Nat) (h : dm_gen p c k = true) (d : Nat) (d0 : 0 < d) (hd : d ≤ k) (hm : (p - 1) % d = 0) :
    (d = p - 1 ∨ c ^ d % p ≠ 1) ∧ (d = 1 ∨ c ^ ((p - 1) / d) % p ≠ 1) := by
  induction k with
  | zero => omega
  | succ k ih =>
    rw [dm_gen, Bool.and_eq_true] at h
    by_cases e : d = k + 1
    · subst e
      have h2 := h.2
      rw [hm] at h2
      have h3 : (k + 1 = p - 1 ∨ (c ^ (k + 1) % p).beq 1 = false) ∧ (k = 0 ∨ (c ^ ((p - 1) / (k + 1)) % p).beq 1 = false) := by
        simpa [Nat.beq_eq] using h2
      exact ⟨h3.1.imp id (fun z => Nat.ne_of_beq_eq_false z), h3.2.imp (fun z => by omega) (fun z => Nat.ne_of_beq_eq_false z)⟩
    · exact ih h.1 (by omega)
theorem dm_gen_O {p c : Nat} (hp : 2 < p) (hp2 : p ≤ 2039) (h1 : c ^ (p - 1) % p = 1) (h : dm_gen p c 45 = true) : dm_O p c (p - 1) := by
  obtain ⟨o, ho⟩ := dm_O_ex (by omega) (show 0 < p - 1 by omega) h1
  have hd : o ∣ p - 1 := (ho.2 _).mp h1
  obtain ⟨k, ek⟩ := hd
  have o1 := dm_O_one ho
  have o0 := ho.1
  by_cases hs : o ≤ 45
  · have := (dm_gen_t 45 h o o0 hs (by rw [ek]; exact Nat.mul_mod_right o k)).1
    rcases this with e | e
    · rw [← e]; exact ho
    · exact absurd o1 e
  · have hk0 : 0 < k := Nat.pos_of_ne_zero (fun z => by rw [z, Nat.mul_zero] at ek; omega)
    have hk : k ≤ 45 := by
      by_cases hk : k ≤ 45
      · exact hk
      · have := Nat.mul_le_mul (show 46 ≤ o by omega) (show 46 ≤ k by omega)
        omega
    have hdiv : (p - 1) / k = o := by rw [ek]; exact Nat.mul_div_cancel o hk0
    have := (dm_gen_t 45 h k hk0 hk (by rw [ek]; exact Nat.mul_mod_left o k)).2
    rw [hdiv] at this
    rcases this with e | e
    · rw [e, Nat.mul_one] at ek
      rw [ek]; exact ho
    · exact absurd o1 e
def dm_all (a : Nat) : Nat → Bool
  | 0 => true
  | n + 1 => dm_all a n && dm_ok (a + n)
theorem dm_all_t {a : Nat} (n : Nat) (h : dm_all a n = true) (i : Nat) (hi : i < n) : dm_ok (a + i) = true := by
  induction n with
  | zero => omega
  | succ n ih =>
    rw [dm_all, Bool.and_eq_true] at h
    by_cases e : i = n
    · subst e; exact h.2
    · exact ih h.1 (by omega)
set_option maxRecDepth 100000 in
theorem dm_t0 : dm_all 0 255 = true := by decide +kernel
set_option maxRecDepth 100000 in
theorem dm_t1 : dm_all 255 255 = true := by decide +kernel
set_option maxRecDepth 100000 in
theorem dm_t2 : dm_all 510 255 = true := by decide +kernel
set_option maxRecDepth 100000 in
theorem dm_t3 : dm_all 765 255 = true := by decide +kernel
set_option maxRecDepth 100000 in
theorem dm_t4 : dm_all 1020 255 = true := by decide +kernel
set_option maxRecDepth 100000 in
theorem dm_t5 : dm_all 1275 255 = true := by decide +kernel
set_option maxRecDepth 100000 in
theorem dm_t6 : dm_all 1530 255 = true := by decide +kernel
set_option maxRecDepth 100000 in
theorem dm_t7 : dm_all 1785 255 = true := by decide +kernel
theorem dm_table {p : Nat} (h : p ≤ 2039) : dm_ok p = true := by
  by_cases h0 : p < 255
  · have := dm_all_t 255 dm_t0 p h0
    rwa [Nat.zero_add] at this
  by_cases h1 : p < 510
  · have := dm_all_t 255 dm_t1 (p - 255) (by omega)
    rwa [Nat.add_sub_cancel' (by omega)] at this
  by_cases h2 : p < 765
  · have := dm_all_t 255 dm_t2 (p - 510) (by omega)
    rwa [Nat.add_sub_cancel' (by omega)] at this
  by_cases h3 : p < 1020
  · have := dm_all_t 255 dm_t3 (p - 765) (by omega)
    rwa [Nat.add_sub_cancel' (by omega)] at this
  by_cases h4 : p < 1275
  · have := dm_all_t 255 dm_t4 (p - 1020) (by omega)
    rwa [Nat.add_sub_cancel' (by omega)] at this
  by_cases h5 : p < 1530
  · have := dm_all_t 255 dm_t5 (p - 1275) (by omega)
    rwa [Nat.add_sub_cancel' (by omega)] at this
  by_cases h6 : p < 1785
  · have := dm_all_t 255 dm_t6 (p - 1530) (by omega)
    rwa [Nat.add_sub_cancel' (by omega)] at this
  by_cases h7 : p < 2040
  · have := dm_all_t 255 dm_t7 (p - 1785) (by omega)
    rwa [Nat.add_sub_cancel' (by omega)] at this
  omega
theorem dm_has {p : Nat} (hp : 2 < p) (hp2 : p ≤ 2039) (h : dm_P p) : ∃ c, dm_O p c (p - 1) := by
  have t := dm_table hp2
  rw [dm_ok, Bool.or_eq_true, Bool.or_eq_true] at t
  rcases t with (t | t) | t
  · have : p < 3 := by simpa [Nat.blt_eq] using t
    omega
  · obtain ⟨d, a, b, e⟩ := dm_comp_t 44 t
    exact absurd e (h d a b)
  · obtain ⟨c, _, hc⟩ := List.any_eq_true.mp t
    rw [Bool.and_eq_true] at hc
    exact ⟨c, dm_gen_O hp hp2 (by simpa using hc.1) hc.2⟩
end
section
-- numbers, powers, the modulus
theorem dw_b {p a b : Nat} (hp : p ≤ 2039) (ha : a < p) (hb : b < p) : a * b < 2 ^ 31 :=
  Nat.lt_of_le_of_lt (Nat.mul_le_mul (show a ≤ 2039 by omega) (show b ≤ 2039 by omega)) (by decide)
theorem dw_tm {p a b : Nat} (h0 : 0 < p) (hp : p ≤ 2039) (ha : a < p) (hb : b < p) :
    nI a * nI b - nI a * nI b / nI p * nI p = nI (a * b % p) := by
  rw [pk_mul, pk_rem (dw_b hp ha hb) h0 (by omega)]
theorem dw_bit {x k : Nat} (hx : x < 2 ^ 31) (hk : k < 32) : (nI x >>> (nI k &&& 31)) &&& 1 = nI (x / 2 ^ k % 2) := by
  rw [pk_shrN hx _ k (s_l k hk)]
  have h : x / 2 ^ k ≤ x := Nat.div_le_self _ _
  exact pk_andN (by omega) 1 (by decide)
theorem dw_half {x k : Nat} : x / 2 ^ (k + 1) = x / 2 ^ k / 2 := by
  rw [Nat.pow_succ, Nat.div_div_eq_div_mul]
theorem dw_r0 {p g x k : Nat} (h : x / 2 ^ k % 2 = 0) :
    g ^ (x / 2 ^ (k + 1)) % p * (g ^ (x / 2 ^ (k + 1)) % p) % p = g ^ (x / 2 ^ k) % p := by
  rw [← Nat.mul_mod, ← Nat.pow_add, dw_half]
  generalize x / 2 ^ k = z at h ⊢
  rw [show z / 2 + z / 2 = z by omega]
theorem dw_r1 {p g x k : Nat} (h : x / 2 ^ k % 2 = 1) :
    g ^ (x / 2 ^ (k + 1)) % p * (g ^ (x / 2 ^ (k + 1)) % p) % p * g % p = g ^ (x / 2 ^ k) % p := by
  rw [← Nat.mul_mod, ← Nat.pow_add, dm_ps, dw_half]
  generalize x / 2 ^ k = z at h ⊢
  rw [show z / 2 + z / 2 + 1 = z by omega]
theorem dw_p1 {p : Nat} (h : 1 ≤ p) : nI p - 1 = nI (p - 1) := pk_sub (a := p) (b := 1) h
theorem dw_p2 {p : Nat} (h : 2 ≤ p) : nI p - 2 = nI (p - 2) := pk_sub (a := p) (b := 2) h
def dw_M (p : Nat) : Prop := 2 < p ∧ p ≤ 2039 ∧ dm_P p
theorem dw_O {p u : Nat} (H : dw_M p) (h1 : 0 < u) (hu : u < p) : dm_O p u (dm_ord p u) ∧ dm_ord p u ∣ p - 1 := by
  obtain ⟨c, hc⟩ := dm_has H.1 H.2.1 H.2.2
  exact dm_unit_O H.1 hc h1 hu
theorem dw_Ole {p u : Nat} (H : dw_M p) (h1 : 0 < u) (hu : u < p) : dm_ord p u ≤ p - 1 :=
  Nat.le_of_dvd (by have := H.1; omega) (dw_O H h1 hu).2
theorem dw_self {p g : Nat} (hg : g < p) : g ^ 1 % p = g := by rw [Nat.pow_one, Nat.mod_eq_of_lt hg]
theorem dw_zero {p g : Nat} (hp : 2 < p) : g ^ 0 % p = 1 := by rw [Nat.pow_zero, Nat.mod_eq_of_lt (by omega)]
theorem dw_phi {p d count : Nat} (H : dw_M p) (hd : d ∣ p - 1) (hI : dm_I d (d + 1) count) :
    dm_cnt (fun i => dm_ord p (i + 1) == d) (p - 1) = count := by
  obtain ⟨c, hc⟩ := dm_has H.1 H.2.1 H.2.2
  obtain ⟨e, he⟩ := hd
  have h3 := H.1
  have d0 : 0 < d := Nat.pos_of_ne_zero (fun z => by rw [z, Nat.zero_mul] at he; omega)
  rw [dm_ordcount H.1 hc he]
  exact (dm_Ie d0 hI).symm
theorem dw_phi0 {p d : Nat} (H : dw_M p) (hd : ¬ d ∣ p - 1) : dm_cnt (fun i => dm_ord p (i + 1) == d) (p - 1) = 0 := by
  obtain ⟨c, hc⟩ := dm_has H.1 H.2.1 H.2.2
  exact dm_ordcount0 H.1 hc hd
theorem dw_none {p d : Nat} (H : dw_M p) (hd : ¬ d ∣ p - 1) {u : Nat} (h1 : 0 < u) (hu : u < p) : dm_ord p u ≠ d :=
  fun z => hd (z ▸ (dw_O H h1 hu).2)
theorem dw_common {p g h : Nat} (H : dw_M p) (g1 : 0 < g) (gp : g < p) (h1 : 0 < h) (hp : h < p) :
    dm_cnt (fun x => dm_d (∃ y, y < p - 1 ∧ g ^ y % p = h ^ (x + 1) % p)) (dm_ord p h) = Nat.gcd (dm_ord p g) (dm_ord p h) := by
  obtain ⟨c, hc⟩ := dm_has H.1 H.2.1 H.2.2
  exact dm_common H.1 hc g1 gp h1 hp (dw_O H g1 gp).1 (dw_O H h1 hp).1
theorem dw_inv {p g : Nat} (H : dw_M p) (g1 : 0 < g) (gp : g < p) {y : Nat} (hy : y < p) :
    g * y % p = 1 ↔ y = g ^ (p - 2) % p := by
  obtain ⟨c, hc⟩ := dm_has H.1 H.2.1 H.2.2
  have e := dm_invp H.1 hc g1 gp
  have h3 := H.1
  exact ⟨fun z => dm_inv hy (Nat.mod_lt _ (by omega)) z e, fun z => z ▸ e⟩
theorem dw_inv0 {p g : Nat} (H : dw_M p) (g1 : 0 < g) (gp : g < p) : 0 < g ^ (p - 2) % p := by
  have h3 := H.1
  refine Nat.pos_of_ne_zero (fun z => ?_)
  have e := (dw_inv H g1 gp (Nat.mod_lt (g ^ (p - 2)) (show 0 < p by omega))).mpr rfl
  rw [z, Nat.mul_zero, Nat.zero_mod] at e
  omega
theorem dw_end (P : Nat → Prop) (a b : Nat) (h : a ≤ b) :
    ∃ e, a ≤ e ∧ e ≤ b ∧ (∀ i, a ≤ i → i < e → ¬ P i) ∧ (e < b → P e) := by
  obtain ⟨e, h1, h2⟩ := pk_least (fun i => a ≤ i ∧ (P i ∨ b ≤ i)) ⟨b, h, Or.inr (Nat.le_refl b)⟩
  refine ⟨e, h1.1, ?_, fun i hi hie hp => h2 i hie ⟨hi, Or.inl hp⟩, fun hb => ?_⟩
  · by_cases z : e ≤ b
    · exact z
    · exact absurd ⟨h, Or.inr (Nat.le_refl b)⟩ (h2 b (by omega))
  · rcases h1.2 with z | z
    · exact z
    · omega
def dw_an (e b : Nat) (v w : Int32) : Int32 := if e < b then v else w
theorem dw_an_t {P : Int32 → Prop} {e b : Nat} {v w : Int32} (h : e < b) (k : P (dw_an e b v w)) : P v := by
  unfold dw_an at k
  rwa [if_pos h] at k
theorem dw_an_f {P : Int32 → Prop} {e b : Nat} {v w : Int32} (h : ¬ e < b) (k : P (dw_an e b v w)) : P w := by
  unfold dw_an at k
  rwa [if_neg h] at k
theorem dw_unit (v : Int32) {p : Nat} (hp3 : 2 < p) (hp : p ≤ 2039) : (∃ g, 0 < g ∧ g < p ∧ v = nI g) ∨ v < 1 ∨ (¬ v < 1 ∧ nI p ≤ v) := by
  by_cases h : v < 1
  · exact Or.inr (Or.inl h)
  · rcases pk_ix v (n := p) (by omega) with z | z | ⟨j, hj, e⟩
    · exact absurd (Int32.lt_trans z (by decide)) h
    · exact Or.inr (Or.inr ⟨h, z⟩)
    · refine Or.inl ⟨j, Nat.pos_of_ne_zero (fun w => h ?_), hj, e⟩
      rw [e, w]
      decide
def dw_K (p g x : Nat) (a : Nat → Int32) : Prop := ∀ u, u < p → (¬ a u = 0 ↔ ∃ y, y < x ∧ g ^ y % p = u)
theorem dw_K0 {p g : Nat} {a : Nat → Int32} (h : ∀ u, u < p → a u = 0) : dw_K p g 0 a :=
  fun u hu => ⟨fun z => absurd (h u hu) z, fun ⟨y, hy, _⟩ => absurd hy (Nat.not_lt_zero y)⟩
theorem dw_K1 {p g x : Nat} {a : Nat → Int32} (h : dw_K p g x a) {v : Int32} (hv : ¬ v = 0) : dw_K p g (x + 1) (upd a (g ^ x % p) v) := by
  intro u hu
  by_cases e : u = g ^ x % p
  · rw [e, pk_us]
    exact ⟨fun _ => ⟨x, by omega, rfl⟩, fun _ => hv⟩
  · rw [pk_un e, h u hu]
    constructor
    · intro ⟨y, hy, e2⟩
      exact ⟨y, by omega, e2⟩
    · intro ⟨y, hy, e2⟩
      by_cases z : y = x
      · rw [z] at e2
        exact absurd e2.symm e
      · exact ⟨y, by omega, e2⟩
def dw_Z (u : Nat) (a : Nat → Int32) : Prop := ∀ i, i < u → a i = 0
theorem dw_Z1 {u : Nat} {a : Nat → Int32} (h : dw_Z u a) {v : Int32} (hv : v = 0) : dw_Z (u + 1) (upd a u v) := by
  intro i hi
  by_cases e : i = u
  · rw [e, pk_us]; exact hv
  · rw [pk_un e]; exact h i (by omega)
theorem dw_bo0 : vp_nar .boolean 0 = 0 := by decide
theorem dw_bo1 : ¬ vp_nar .boolean 1 = 0 := by decide
-- logarithms with a step
theorem dw_step {p g r m i : Nat} : g ^ (r + i * m) % p * (g ^ m % p) % p = g ^ (r + (i + 1) * m) % p := by
  rw [← Nat.mul_mod, ← Nat.pow_add, Nat.add_mul, Nat.one_mul, Nat.add_assoc]
theorem dw_lw {p m r e x : Nat} (hm : 0 < m) (hr : r < m) (P : Nat → Prop)
    (hn : ∀ i, i < e → ¬ P (r + i * m)) (hx : x < r + e * m ∨ (e = p - 1 ∧ x < (p - 1) * m)) : ¬ (P x ∧ x % m = r) := by
  intro ⟨h1, h2⟩
  have h3 : r + x / m * m = x := by
    have := Nat.div_add_mod x m
    rw [Nat.mul_comm m, h2] at this
    omega
  refine hn (x / m) ?_ (by rw [h3]; exact h1)
  rcases hx with h | ⟨h4, h⟩
  · exact Nat.lt_of_mul_lt_mul_right (a := m) (by omega)
  · rw [h4]
    exact Nat.div_lt_of_lt_mul (by rw [Nat.mul_comm]; exact h)
theorem dw_lwe {m r e : Nat} (hr : r < m) : (r + e * m) % m = r := by
  rw [Nat.add_mul_mod_self_right, Nat.mod_eq_of_lt hr]
theorem dw_lwb {p m r e : Nat} (hr : r < m) (he : e < p - 1) : r + e * m < (p - 1) * m := by
  have := Nat.mul_le_mul_right m (show e + 1 ≤ p - 1 by omega)
  rw [Nat.add_mul, Nat.one_mul] at this
  omega
end
section
-- X: the class's own methods against their pictures
theorem dx_pl {post : Int32 → Prop} {n : Nat} (hn : n < 2 ^ 30) (h1 : dm_P n → post 1) (h0 : ¬ dm_P n → post 0) :
    ∀ m d : Nat, 2 ≤ d → d ≤ n + 2 → n ≤ d + m → (∀ e, 2 ≤ e → e < d → n % e ≠ 0) → wX_isPrime_2 post (nI n) (m + 1) (nI d) := by
  intro m
  induction m with
  | zero =>
    intro d h2 hb hm hi
    exact br_t (nI_le (by omega) (by omega)) (h1 (fun e a b => hi e a (by omega)))
  | succ m ih =>
    intro d h2 hb hm hi
    refine pk_le n d (fun h => h1 (fun e a b => hi e a (by omega))) (fun h => ?_)
    refine ⟨nI_ne0 (by omega) (by omega), ?_⟩
    refine pk_eq (n % d) 0 (fun z => h0 (fun w => w d h2 h z)) (fun z => ?_) (pk_rem (by omega) (by omega) (by omega)) rfl (by have := Nat.mod_lt n (show 0 < d by omega); omega)
    refine nm_r (nI_1 d) ?_
    refine ih (d + 1) (by omega) (by omega) (by omega) (fun e a b => ?_)
    by_cases w : e = d
    · rw [w]; exact z
    · exact hi e a (by omega)
theorem dx_p {post : Int32 → Prop} {n : Nat} (hn : n < 2 ^ 30) (h1 : dm_P n → post 1) (h0 : ¬ dm_P n → post 0) : wpX_isPrime post (nI n) :=
  ⟨n + 1, dx_pl hn h1 h0 n 2 (by omega) (by omega) (by omega) (fun e a b => by omega)⟩
theorem dx_u1 {post : Int32 → Prop} {p g : Nat} (hp : p ≤ 2039) (g0 : 0 < g) (gp : g < p) (h : post 1) : wpX_isUnit post (nI p) (nI g) :=
  pk_lt g 1 (fun z => absurd z (by omega)) (fun _ => pk_le p g (fun z => absurd z (by omega)) (fun _ => h))
theorem dx_u0 {post : Int32 → Prop} {p : Nat} {v : Int32} (hv : v < 1 ∨ (¬ v < 1 ∧ nI p ≤ v)) (h : post 0) : wpX_isUnit post (nI p) v := by
  rcases hv with z | ⟨z, w⟩
  · exact br_t z h
  · exact br_f z (br_t w h)
theorem dx_t {post : Int32 → Prop} {p a b : Nat} (h0 : 0 < p) (hp : p ≤ 2039) (ha : a < p) (hb : b < p) (h : post (nI (a * b % p))) :
    wpX_times post (nI p) (nI a) (nI b) := by
  refine ⟨nI_ne0 h0 (by omega), ?_⟩
  rw [dw_tm h0 hp ha hb]
  exact h
theorem dx_rl {post : Int32 → Prop} {p g x : Nat} (hp3 : 2 < p) (hp : p ≤ 2039) (hg : g < p) (hx : x < 2 ^ 31) (h : post (nI (g ^ x % p))) :
    ∀ k, k ≤ 20 → wX_raise_6 post (nI g) (nI x) (nI p) (k + 1) (nI (g ^ (x / 2 ^ k) % p)) (nI k + (-1)) := by
  intro k
  induction k with
  | zero =>
    intro _
    refine br_t (by decide) ?_
    rw [Nat.pow_zero, Nat.div_one]
    exact h
  | succ k ih =>
    intro hk
    rw [pk_m1]
    have hv : g ^ (x / 2 ^ (k + 1)) % p < p := Nat.mod_lt _ (by omega)
    refine br_f (nI_pos (by omega)) ?_
    refine dx_t (by omega) hp hv hv ?_
    refine pk_eq (x / 2 ^ k % 2) 1 (fun z => ?_) (fun z => ?_) (dw_bit hx (by omega)) rfl (by omega)
    · refine dx_t (by omega) hp (Nat.mod_lt _ (by omega)) hg ?_
      rw [dw_r1 z]
      exact nm_e (ih (by omega))
    · have z0 : x / 2 ^ k % 2 = 0 := by omega
      rw [dw_r0 z0]
      exact nm_e (ih (by omega))
theorem dx_r {post : Int32 → Prop} {p g x : Nat} (hp3 : 2 < p) (hp : p ≤ 2039) (hg : g < p) (hx : x < 2 ^ 20) (h : post (nI (g ^ x % p))) :
    wpX_raise post (nI p) (nI g) (nI x) := by
  have e := dx_rl hp3 hp hg (by omega) h 20 (by omega)
  rw [Nat.div_eq_of_lt hx, dw_zero hp3, pk_m1] at e
  exact ⟨21, e⟩
theorem dx_ol {post : Int32 → Prop} {p g o : Nat} (hp3 : 2 < p) (hp : p ≤ 2039) (hg : g < p) (ho : dm_O p g o) (hl : o ≤ p - 1) (h : post (nI o)) :
    ∀ m x, 0 < x → x + m = o → wX_orderOfUnit_4 post (nI g) (nI p) (m + 1) (nI (g ^ x % p)) (nI x) := by
  intro m
  induction m with
  | zero =>
    intro x h0 hx
    have e : x = o := by omega
    rw [e, dm_O_one ho]
    exact br_t rfl h
  | succ m ih =>
    intro x h0 hx
    have n1 : g ^ x % p ≠ 1 := dm_O_not ho h0 (by omega)
    have hv : g ^ x % p < p := Nat.mod_lt _ (by omega)
    refine br_f (fun z => n1 ((nI_eq (b := 1) (by omega) (by omega)).mp z)) ?_
    refine pk_le (p - 1) x (fun z => absurd z (by omega)) (fun _ => ?_) (dw_p1 (by omega))
    refine dx_t (by omega) hp hv hg ?_
    rw [dm_ps]
    exact nm_r (nI_1 x) (ih (x + 1) (by omega) (by omega))
theorem dx_o {post : Int32 → Prop} {p g : Nat} (H : dw_M p) (g0 : 0 < g) (gp : g < p) (h : post (nI (dm_ord p g))) :
    wpX_orderOfUnit post (nI p) (nI g) := by
  have o := dw_O H g0 gp
  have e := dx_ol H.1 H.2.1 gp o.1 (dw_Ole H g0 gp) h (dm_ord p g - 1) 1 (by omega) (by have := o.1.1; omega)
  rw [dw_self gp] at e
  exact ⟨_, e⟩
theorem dx_gl {post : Int32 → Prop} {a b : Nat} (ha : a < 2 ^ 30) (hb : b < 2 ^ 30) (a0 : 0 < a) (h : post (nI (Nat.gcd a b))) :
    ∀ d, Nat.gcd a b ≤ d → d ≤ a → wX_greatestCommonDivisor_2 post (nI a) (nI b) (d + 1) (nI d) := by
  have hg : 0 < Nat.gcd a b := Nat.gcd_pos_of_pos_left b a0
  intro d
  induction d with
  | zero =>
    intro h1 _
    omega
  | succ d ih =>
    intro h1 h2
    have nx : ¬ Nat.gcd a b = d + 1 → wX_greatestCommonDivisor_2 post (nI a) (nI b) (d + 1) (nI d) := fun z => ih (by omega) (by omega)
    have hm : ∀ c, c % (d + 1) < d + 1 := fun c => Nat.mod_lt c (by omega)
    refine pk_le (d + 1) 1 (fun z => ?_) (fun z => ⟨nI_ne0 (by omega) (by omega), ?_⟩)
    · have e : Nat.gcd a b = 1 := by omega
      rw [e] at h
      exact h
    · refine pk_eq (a % (d + 1)) 0 (fun w => ⟨nI_ne0 (by omega) (by omega), ?_⟩) (fun w => ?_) (pk_rem (by omega) (by omega) (by omega)) rfl (by have := hm a; omega)
      · refine pk_eq (b % (d + 1)) 0 (fun y => ?_) (fun y => ?_) (pk_rem (by omega) (by omega) (by omega)) rfl (by have := hm b; omega)
        · have e := Nat.le_of_dvd hg (Nat.dvd_gcd (Nat.dvd_of_mod_eq_zero w) (Nat.dvd_of_mod_eq_zero y))
          have e2 : Nat.gcd a b = d + 1 := by omega
          rw [e2] at h
          exact h
        · exact nm_r (pk_m1 d) (nx (fun e => y (Nat.mod_eq_zero_of_dvd (e ▸ Nat.gcd_dvd_right a b))))
      · exact nm_r (pk_m1 d) (nx (fun e => w (Nat.mod_eq_zero_of_dvd (e ▸ Nat.gcd_dvd_left a b))))
theorem dx_g {post : Int32 → Prop} {a b : Nat} (ha : a < 2 ^ 30) (hb : b < 2 ^ 30) (a0 : 0 < a) (h : post (nI (Nat.gcd a b))) :
    wpX_greatestCommonDivisor post (nI a) (nI b) :=
  ⟨_, dx_gl ha hb a0 h a (Nat.gcd_le_left b a0) (Nat.le_refl a)⟩
end
section
-- X: searches and counts
theorem dx_ll {post : Int32 → Prop} {p d e : Nat} (H : dw_M p) (hd : d < p) (he : e ≤ p)
    (hn : ∀ i, 1 ≤ i → i < e → ¬ dm_ord p i = d) (ht : e < p → dm_ord p e = d) (h : post (dw_an e p (nI e) (-4))) :
    ∀ m u, 0 < u → u + m = e → wX_leastOfOrder_13 post (nI d) (nI p) (m + 1) (nI u) := by
  have hp3 := H.1
  have hp := H.2.1
  intro m
  induction m with
  | zero =>
    intro u h0 hu
    have eu : u = e := by omega
    refine pk_le p u (fun z => dw_an_f (P := post) (by omega) h) (fun z => ?_)
    refine dx_r hp3 hp z (by omega) ?_
    have ho := (dw_O H h0 z).1
    have e1 : dm_ord p u = d := by rw [eu]; exact ht (by omega)
    rw [e1] at ho
    rw [dm_O_one ho]
    refine br_t rfl ?_
    refine dx_o H h0 z ?_
    rw [e1]
    refine br_t rfl ?_
    rw [eu]
    exact dw_an_t (P := post) (by omega) h
  | succ m ih =>
    intro u h0 hu
    have nx := ih (u + 1) (by omega) (by omega)
    refine br_f (nI_ge (by omega) (by omega)) ?_
    refine dx_r hp3 hp (show u < p by omega) (by omega) ?_
    have hv : u ^ d % p < p := Nat.mod_lt _ (by omega)
    have ol := dw_Ole H h0 (show u < p by omega)
    refine pk_eq (u ^ d % p) 1 (fun z => ?_) (fun z => ?_)
    · refine dx_o H h0 (by omega) ?_
      refine br_f (fun w => hn u (by omega) (by omega) ((nI_eq (by omega) (by omega)).mp w)) ?_
      exact nm_r (nI_1 u) nx
    · exact nm_r (nI_1 u) nx
theorem dx_cl {post : Int32 → Prop} {p d : Nat} (hd : d < 2 ^ 16) (h : ∀ count, dm_I d (d + 1) count → post (nI count)) :
    ∀ m q count, 2 ≤ q → q + m = d + 1 → count ≤ d → dm_I d q count → wX_countOfOrder_14 post (nI d) (nI p) (m + 1) (nI count) (nI q) := by
  intro m
  induction m with
  | zero =>
    intro q count h2 hq hc hI
    have e : q = d + 1 := by omega
    rw [e] at hI ⊢
    exact br_t (nI_lt (by omega) (by omega)) (h count hI)
  | succ m ih =>
    intro q count h2 hq hc hI
    have q0 : ¬ nI q = 0 := nI_ne0 (by omega) (by omega)
    have hm : d % q < q := Nat.mod_lt _ (by omega)
    have hb : count / q * (q - 1) ≤ count := Nat.le_trans (Nat.mul_le_mul_left _ (by omega)) (Nat.div_mul_le_self count q)
    refine br_f (nI_nlt (by omega) (by omega)) ⟨q0, ?_⟩
    refine pk_eq (d % q) 0 (fun z => ?_) (fun z => ?_) (pk_rem (by omega) (by omega) (by omega)) rfl
    · refine dx_p (by omega) (fun hp => ?_) (fun hp => ?_)
      · refine br_f (by decide) ⟨q0, ?_⟩
        refine nm_r (e' := nI (count / q * (q - 1))) ?_ ?_
        · rw [pk_div (by omega) (by omega) (by omega), dw_p1 (by omega), pk_mul]
        · exact nm_r (nI_1 q) (ih (q + 1) _ (by omega) (by omega) (by omega) (dm_I2 hI h2 hp (Nat.dvd_of_mod_eq_zero z)))
      · exact br_t rfl (nm_r (nI_1 q) (ih (q + 1) _ (by omega) (by omega) hc (dm_I1 hI (fun w => hp w.1))))
    · exact nm_r (nI_1 q) (ih (q + 1) _ (by omega) (by omega) hc (dm_I1 hI (fun w => z (Nat.mod_eq_zero_of_dvd w.2))))
theorem dx_el {post : Int32 → Prop} {p g h r m e : Nat} (hp3 : 2 < p) (hp : p ≤ 2039) (hh : h < p) (he : e ≤ p - 1)
    (hn : ∀ i, i < e → ¬ g ^ (r + i * m) % p = h) (ht : e < p - 1 → g ^ (r + e * m) % p = h)
    (k : post (dw_an e (p - 1) (nI (r + e * m)) (-4))) :
    ∀ n i, i + n = e → wX_leastExponent_20 post (nI h) (nI r) (nI m) (nI (g ^ m % p)) (nI p) (n + 1) (nI (g ^ (r + i * m) % p)) (nI i) := by
  intro n
  induction n with
  | zero =>
    intro i hi
    have ei : i = e := by omega
    refine pk_le (p - 1) i (fun z => dw_an_f (P := post) (by omega) k) (fun z => ?_) (dw_p1 (by omega))
    rw [ei, ht (by omega)]
    refine br_t rfl ?_
    rw [pk_mul, nI_add]
    exact dw_an_t (P := post) (by omega) k
  | succ n ih =>
    intro i hi
    have hv : ∀ x, g ^ x % p < p := fun x => Nat.mod_lt _ (by omega)
    have hv1 := hv (r + i * m)
    refine pk_le (p - 1) i (fun z => absurd z (by omega)) (fun z => ?_) (dw_p1 (by omega))
    refine br_f (fun w => hn i (by omega) ((nI_eq (by omega) (by omega)).mp w)) ?_
    refine dx_t (by omega) hp hv1 (hv m) ?_
    rw [dw_step]
    exact nm_r (nI_1 i) (ih (i + 1) (by omega))
theorem dx_a1 {post : Int32 → Prop} {p d : Nat} (hp3 : 2 < p) (hp : p ≤ 2039) (d0 : 0 < d) (hd : d < 2 ^ 31) (h : d ∣ p - 1) (k : post 1) :
    wpX_isAnOrder post (nI p) (nI d) := by
  refine ⟨nI_ne0 d0 hd, ?_⟩
  rw [dw_p1 (by omega), pk_rem (by omega) d0 hd, Nat.mod_eq_zero_of_dvd h]
  exact br_t rfl k
theorem dx_a0 {post : Int32 → Prop} {p d : Nat} (hp3 : 2 < p) (hp : p ≤ 2039) (d0 : 0 < d) (hd : d < 2 ^ 31) (h : ¬ d ∣ p - 1) (k : post 0) :
    wpX_isAnOrder post (nI p) (nI d) := by
  refine ⟨nI_ne0 d0 hd, ?_⟩
  rw [dw_p1 (by omega), pk_rem (by omega) d0 hd]
  have hb : (p - 1) % d ≤ p - 1 := Nat.mod_le _ _
  exact br_f (nI_ne0 (Nat.pos_of_ne_zero (fun z => h (Nat.dvd_of_mod_eq_zero z))) (by omega)) k
theorem dx_l {post : Int32 → Prop} {p d e : Nat} (H : dw_M p) (d0 : 0 < d) (hd : d < 2 ^ 31) (he : e ≤ p) (e0 : 1 ≤ e)
    (hn : ∀ i, 1 ≤ i → i < e → ¬ dm_ord p i = d) (ht : e < p → dm_ord p e = d) (h : post (dw_an e p (nI e) (-4))) :
    wpX_leastOfOrder post (nI p) (nI d) := by
  have hp3 := H.1
  have hp := H.2.1
  by_cases hv : d ∣ p - 1
  · have hl := Nat.le_of_dvd (by omega) hv
    exact dx_a1 hp3 hp d0 hd hv (br_f (by decide) ⟨_, dx_ll H (by omega) he hn ht h (e - 1) 1 (by omega) (by omega)⟩)
  · refine dx_a0 hp3 hp d0 hd hv (br_t rfl ?_)
    exact dw_an_f (P := post) (fun z => dw_none H hv (by omega) z (ht z)) h
theorem dx_c {post : Int32 → Prop} {p d : Nat} (H : dw_M p) (d0 : 0 < d) (hd : d < 2 ^ 31)
    (h : post (nI (dm_cnt (fun i => dm_ord p (i + 1) == d) (p - 1)))) : wpX_countOfOrder post (nI p) (nI d) := by
  have hp3 := H.1
  have hp := H.2.1
  by_cases hv : d ∣ p - 1
  · have hl := Nat.le_of_dvd (by omega) hv
    refine dx_a1 hp3 hp d0 hd hv (br_f (by decide) ⟨_, dx_cl (by omega) (fun count hI => ?_) (d - 1) 2 d (by omega) (by omega) (Nat.le_refl d) (dm_I0 d)⟩)
    rw [← dw_phi H hv hI]
    exact h
  · rw [dw_phi0 H hv] at h
    exact dx_a0 hp3 hp d0 hd hv (br_t rfl h)
theorem dx_e {post : Int32 → Prop} {p g h r m e : Nat} (hp3 : 2 < p) (hp : p ≤ 2039) (hg : g < p) (hh : h < p) (hr : r ≤ 60) (hm : m ≤ 60) (he : e ≤ p - 1)
    (hn : ∀ i, i < e → ¬ g ^ (r + i * m) % p = h) (ht : e < p - 1 → g ^ (r + e * m) % p = h)
    (k : post (dw_an e (p - 1) (nI (r + e * m)) (-4))) : wpX_leastExponent post (nI p) (nI g) (nI h) (nI r) (nI m) := by
  refine dx_r hp3 hp hg (by omega) ?_
  refine dx_r hp3 hp hg (by omega) ?_
  have z := dx_el hp3 hp hh he hn ht k e 0 (by omega)
  rw [Nat.zero_mul, Nat.add_zero] at z
  exact ⟨_, z⟩
theorem dx_tl {post : Int32 → Prop} {p h k e : Nat} (hp3 : 2 < p) (hp : p ≤ 2039) (hh : h < p) (hk : k < 2 ^ 20) (he : e ≤ p)
    (hn : ∀ i, 1 ≤ i → i < e → ¬ i ^ k % p = h) (ht : e < p → e ^ k % p = h) (H : post (dw_an e p (nI e) (-4))) :
    ∀ m u, 0 < u → u + m = e → wX_root_13 post (nI h) (nI k) (nI p) (m + 1) (nI u) := by
  intro m
  induction m with
  | zero =>
    intro u h0 hu
    have eu : u = e := by omega
    refine pk_le p u (fun z => dw_an_f (P := post) (by omega) H) (fun z => ?_)
    refine dx_r hp3 hp z hk ?_
    rw [eu, ht (by omega)]
    exact br_t rfl (dw_an_t (P := post) (by omega) H)
  | succ m ih =>
    intro u h0 hu
    have hv : u ^ k % p < p := Nat.mod_lt _ (by omega)
    refine br_f (nI_ge (by omega) (by omega)) ?_
    refine dx_r hp3 hp (by omega) hk ?_
    refine br_f (fun w => hn u (by omega) (by omega) ((nI_eq (by omega) (by omega)).mp w)) ?_
    exact nm_r (nI_1 u) (ih (u + 1) (by omega) (by omega))
theorem dx_sl {post : Int32 → Prop} {p h k : Nat} (hp3 : 2 < p) (hp : p ≤ 2039) (hh : h < p) (hk : k < 2 ^ 20)
    (H : post (nI (dm_cnt (fun i => (i + 1) ^ k % p == h) (p - 1)))) :
    ∀ m i, i + m = p - 1 → wX_roots_16 post (nI h) (nI k) (nI p) (m + 1) (nI (dm_cnt (fun i => (i + 1) ^ k % p == h) i)) (nI (i + 1)) := by
  intro m
  induction m with
  | zero =>
    intro i hi
    have ei : i = p - 1 := by omega
    rw [ei]
    exact br_t (nI_le (by omega) (by omega)) H
  | succ m ih =>
    intro i hi
    have nx := ih (i + 1) (by omega)
    have hv : (i + 1) ^ k % p < p := Nat.mod_lt _ (by omega)
    refine br_f (nI_ge (by omega) (by omega)) ?_
    refine dx_r hp3 hp (by omega) hk ?_
    refine pk_eq ((i + 1) ^ k % p) h (fun z => ?_) (fun z => ?_)
    · rw [dm_cnt_t (P := fun i => (i + 1) ^ k % p == h) (by simpa using z)] at nx
      exact nm_r (nI_1 _) (nm_r (nI_1 _) nx)
    · rw [dm_cnt_f (P := fun i => (i + 1) ^ k % p == h) (by simpa using z)] at nx
      exact nm_r (nI_1 _) nx
theorem dx_nl {post : Int32 → SX → Prop} {p e : Nat} (hp : p ≤ 2039) (he : e ≤ 2040) (hn : ∀ i, p + 1 ≤ i → i < e → ¬ dm_P i) (ht : e < 2040 → dm_P e)
    (h1 : e < 2040 → post (nI e) (nI e)) (h0 : ¬ e < 2040 → post (-4) (nI p)) :
    ∀ m n, p + 1 ≤ n → n + m = e → wX_nextPrime_7 post (nI p) (m + 1) (nI n) := by
  intro m
  induction m with
  | zero =>
    intro n hl hm
    have en : n = e := by omega
    refine pk_lt 2039 n (fun z => h0 (by omega)) (fun z => ?_)
    refine dx_p (by omega) (fun hq => br_f (by decide) ?_) (fun hq => absurd (ht (by omega)) (en ▸ hq))
    rw [en]
    exact h1 (by omega)
  | succ m ih =>
    intro n hl hm
    refine pk_lt 2039 n (fun z => absurd z (by omega)) (fun z => ?_)
    exact dx_p (by omega) (fun hq => absurd hq (hn n hl (by omega))) (fun hq => br_t rfl (nm_r (nI_1 n) (ih (n + 1) (by omega) (by omega))))
end
section
-- Y: the reference's methods against the same pictures
theorem dy_pl {post : Int32 → Prop} {n : Nat} {f : Int32} {a : Nat → Int32} (hn : n < 2 ^ 30) (h3 : 3 ≤ n) (h1 : dm_P n → post 1) (h0 : ¬ dm_P n → post 0) :
    ∀ m d : Nat, 2 ≤ d → d ≤ n + 2 → n ≤ d + m → (∀ e, 2 ≤ e → e < d → n % e ≠ 0) → wY_isPrime_2 post (nI n) f a (m + 1) (nI d) := by
  have h3' : ¬ nI n < 3 := nI_nlt (b := 3) h3 (by omega)
  intro m
  induction m with
  | zero =>
    intro d h2 hb hm hi
    exact br_t (nI_le (by omega) (by omega)) (br_f h3' (h1 (fun e a b => hi e a (by omega))))
  | succ m ih =>
    intro d h2 hb hm hi
    refine pk_le n d (fun h => br_f h3' (h1 (fun e a b => hi e a (by omega)))) (fun h => ?_)
    refine ⟨nI_ne0 (by omega) (by omega), ?_⟩
    refine pk_eq (n % d) 0 (fun z => h0 (fun w => w d h2 h z)) (fun z => ?_) (pk_rem (by omega) (by omega) (by omega)) rfl (by have := Nat.mod_lt n (show 0 < d by omega); omega)
    refine nm_r (nI_1 d) ?_
    refine ih (d + 1) (by omega) (by omega) (by omega) (fun e a b => ?_)
    by_cases w : e = d
    · rw [w]; exact z
    · exact hi e a (by omega)
theorem dy_p {post : Int32 → Prop} {n : Nat} {f : Int32} {a : Nat → Int32} (hn : n < 2 ^ 30) (h3 : 3 ≤ n) (h1 : dm_P n → post 1) (h0 : ¬ dm_P n → post 0) :
    wpY_isPrime post (f, a) (nI n) :=
  ⟨n + 1, dy_pl hn h3 h1 h0 n 2 (by omega) (by omega) (by omega) (fun e a b => by omega)⟩
theorem dy_u1 {post : Int32 → Prop} {p g : Nat} {a : Nat → Int32} (hp : p ≤ 2039) (g0 : 0 < g) (gp : g < p) (h : post 1) : wpY_isUnit post (nI p, a) (nI g) :=
  pk_lt g 1 (fun z => absurd z (by omega)) (fun _ => pk_le p g (fun z => absurd z (by omega)) (fun _ => h))
theorem dy_u0 {post : Int32 → Prop} {p : Nat} {a : Nat → Int32} {v : Int32} (hv : v < 1 ∨ (¬ v < 1 ∧ nI p ≤ v)) (h : post 0) : wpY_isUnit post (nI p, a) v := by
  rcases hv with z | ⟨z, w⟩
  · exact br_t z h
  · exact br_f z (br_t w h)
theorem dy_ol {post : Int32 → Prop} {p g o : Nat} {a : Nat → Int32} (hp3 : 2 < p) (hp : p ≤ 2039) (hg : g < p) (ho : dm_O p g o) (hl : o ≤ p - 1) (h : post (nI o)) :
    ∀ m x, 0 < x → x + m = o → wY_orderOf_4 post (nI g) (nI p) a (m + 1) (nI x) (nI (g ^ x % p)) := by
  intro m
  induction m with
  | zero =>
    intro x h0 hx
    have e : x = o := by omega
    rw [e, dm_O_one ho]
    exact br_f (nI_ge (by omega) (by omega)) (br_t rfl h)
  | succ m ih =>
    intro x h0 hx
    have n1 : g ^ x % p ≠ 1 := dm_O_not ho h0 (by omega)
    have hv : g ^ x % p < p := Nat.mod_lt _ (by omega)
    refine br_f (nI_ge (by omega) (by omega)) ?_
    refine br_f (fun z => n1 ((nI_eq (b := 1) (by omega) (by omega)).mp z)) ⟨nI_ne0 (by omega) (by omega), ?_⟩
    refine nm_r (e' := nI (g ^ (x + 1) % p)) ?_ (nm_r (nI_1 x) (ih (x + 1) (by omega) (by omega)))
    rw [dw_tm (by omega) hp hv hg, dm_ps]
theorem dy_o {post : Int32 → Prop} {p g : Nat} {a : Nat → Int32} (H : dw_M p) (g0 : 0 < g) (gp : g < p) (h : post (nI (dm_ord p g))) :
    wpY_orderOf post (nI p, a) (nI g) := by
  have o := dw_O H g0 gp
  have e := dy_ol (a := a) H.1 H.2.1 gp o.1 (dw_Ole H g0 gp) h (dm_ord p g - 1) 1 (by omega) (by have := o.1.1; omega)
  rw [dw_self gp] at e
  exact ⟨_, e⟩
theorem dy_rl {post : Int32 → Prop} {p g x : Nat} {a : Nat → Int32} (hp3 : 2 < p) (hp : p ≤ 2039) (hg : g < p) (hx : x < 2 ^ 31) (h : post (nI (g ^ x % p))) :
    ∀ k, k ≤ 20 → wY_raised_6 post (nI g) (nI x) (nI p) a (k + 1) (nI (g ^ (x / 2 ^ k) % p)) (nI k + (-1)) := by
  intro k
  induction k with
  | zero =>
    intro _
    refine br_t (by decide) ?_
    rw [Nat.pow_zero, Nat.div_one]
    exact h
  | succ k ih =>
    intro hk
    rw [pk_m1]
    have hv : g ^ (x / 2 ^ (k + 1)) % p < p := Nat.mod_lt _ (by omega)
    have hw : g ^ (x / 2 ^ (k + 1)) % p * (g ^ (x / 2 ^ (k + 1)) % p) % p < p := Nat.mod_lt _ (by omega)
    have p0 : ¬ nI p = 0 := nI_ne0 (by omega) (by omega)
    refine br_f (nI_pos (by omega)) ⟨p0, nm_r (dw_tm (by omega) hp hv hv) ?_⟩
    refine pk_eq (x / 2 ^ k % 2) 1 (fun z => ⟨p0, nm_r (dw_tm (by omega) hp hw hg) ?_⟩) (fun z => ?_) (dw_bit hx (by omega)) rfl (by omega)
    · rw [dw_r1 z]
      exact nm_e (ih (by omega))
    · have z0 : x / 2 ^ k % 2 = 0 := by omega
      rw [dw_r0 z0]
      exact nm_e (ih (by omega))
theorem dy_r {post : Int32 → Prop} {p g x : Nat} {a : Nat → Int32} (hp3 : 2 < p) (hp : p ≤ 2039) (hg : g < p) (hx : x < 2 ^ 20) (h : post (nI (g ^ x % p))) :
    wpY_raised post (nI p, a) (nI g) (nI x) := by
  have e := dy_rl (a := a) hp3 hp hg (by omega) h 20 (by omega)
  rw [Nat.div_eq_of_lt hx, dw_zero hp3, pk_m1] at e
  exact ⟨21, e⟩
theorem dy_ll {post : Int32 → Prop} {p d e : Nat} {a : Nat → Int32} (H : dw_M p) (hd : d < 2 ^ 31) (he : e ≤ p)
    (hn : ∀ i, 1 ≤ i → i < e → ¬ dm_ord p i = d) (ht : e < p → dm_ord p e = d) (h : post (dw_an e p (nI e) (-4))) :
    ∀ m u, 0 < u → u + m = e → wY_unitOfOrder_9 post (nI d) (nI p) a (m + 1) (nI u) := by
  have hp3 := H.1
  have hp := H.2.1
  intro m
  induction m with
  | zero =>
    intro u h0 hu
    have eu : u = e := by omega
    refine pk_le p u (fun z => dw_an_f (P := post) (by omega) h) (fun z => ?_)
    refine dy_o H h0 z ?_
    have e1 : dm_ord p u = d := by rw [eu]; exact ht (by omega)
    rw [e1]
    refine br_t rfl ?_
    rw [eu]
    exact dw_an_t (P := post) (by omega) h
  | succ m ih =>
    intro u h0 hu
    have nx := ih (u + 1) (by omega) (by omega)
    have ol := dw_Ole H h0 (show u < p by omega)
    refine br_f (nI_ge (by omega) (by omega)) ?_
    refine dy_o H h0 (by omega) ?_
    refine br_f (fun w => hn u (by omega) (by omega) ((nI_eq (by omega) (by omega)).mp w)) ?_
    exact nm_r (nI_1 u) nx
theorem dy_cl {post : Int32 → Prop} {p d : Nat} {a : Nat → Int32} (H : dw_M p) (hd : d < 2 ^ 31)
    (h : post (nI (dm_cnt (fun i => dm_ord p (i + 1) == d) (p - 1)))) :
    ∀ m i, i + m = p - 1 → wY_unitsOfOrder_11 post (nI d) (nI p) a (m + 1) (nI (dm_cnt (fun i => dm_ord p (i + 1) == d) i)) (nI (i + 1)) := by
  have hp3 := H.1
  have hp := H.2.1
  intro m
  induction m with
  | zero =>
    intro i hi
    have ei : i = p - 1 := by omega
    rw [ei]
    exact br_t (nI_le (by omega) (by omega)) h
  | succ m ih =>
    intro i hi
    have nx := ih (i + 1) (by omega)
    have ol := dw_Ole H (show 0 < i + 1 by omega) (show i + 1 < p by omega)
    refine br_f (nI_ge (by omega) (by omega)) ?_
    refine dy_o H (by omega) (by omega) ?_
    refine pk_eq (dm_ord p (i + 1)) d (fun z => ?_) (fun z => ?_)
    · rw [dm_cnt_t (P := fun i => dm_ord p (i + 1) == d) (by simpa using z)] at nx
      exact nm_r (nI_1 _) (nm_r (nI_1 _) nx)
    · rw [dm_cnt_f (P := fun i => dm_ord p (i + 1) == d) (by simpa using z)] at nx
      exact nm_r (nI_1 _) nx
theorem dy_il {post : Int32 → Prop} {p g : Nat} {a : Nat → Int32} (H : dw_M p) (g0 : 0 < g) (gp : g < p)
    (h : post (nI (g ^ (p - 2) % p))) :
    ∀ m y, 0 < y → y + m = p → wY_inverse_14 post (nI g) (nI p) a (m + 1) (dw_an (g ^ (p - 2) % p) y (nI (g ^ (p - 2) % p)) 0) (nI y) := by
  have hp3 := H.1
  have hp := H.2.1
  have hi : g ^ (p - 2) % p < p := Nat.mod_lt _ (by omega)
  intro m
  induction m with
  | zero =>
    intro y h0 hy
    refine br_t (nI_le (by omega) (by omega)) ?_
    unfold dw_an
    rw [if_pos (by omega)]
    exact h
  | succ m ih =>
    intro y h0 hy
    have nx := ih (y + 1) (by omega) (by omega)
    refine br_f (nI_ge (by omega) (by omega)) ⟨nI_ne0 (by omega) (by omega), ?_⟩
    have yp : y < p := by omega
    have iv := dw_inv H g0 gp yp
    refine pk_eq (g * y % p) 1 (fun z => ?_) (fun z => ?_) (dw_tm (by omega) hp gp yp) rfl (by have := Nat.mod_lt (g * y) (show 0 < p by omega); omega)
    · have e := iv.mp z
      unfold dw_an at nx
      rw [if_pos (by omega), ← e] at nx
      exact nm_r (nI_1 y) nx
    · have e : ¬ y = g ^ (p - 2) % p := fun w => z (iv.mpr w)
      have e2 : dw_an (g ^ (p - 2) % p) (y + 1) (nI (g ^ (p - 2) % p)) 0 = dw_an (g ^ (p - 2) % p) y (nI (g ^ (p - 2) % p)) 0 := by
        unfold dw_an
        by_cases w : g ^ (p - 2) % p < y
        · rw [if_pos w, if_pos (by omega)]
        · rw [if_neg w, if_neg (by omega)]
      rw [e2] at nx
      exact nm_r (nI_1 y) nx
theorem dy_el {post : Int32 → Prop} {p g h e : Nat} {a : Nat → Int32} (hp3 : 2 < p) (hp : p ≤ 2039) (hg : g < p) (hh : h < p) (he : e ≤ p - 1)
    (hn : ∀ i, i < e → ¬ g ^ i % p = h) (ht : e < p - 1 → g ^ e % p = h)
    (k : post (dw_an e (p - 1) (nI e) (-4))) :
    ∀ n i, i + n = e → wY_log_23 post (nI g) (nI h) (nI p) a (n + 1) (nI (g ^ i % p)) (nI i) := by
  intro n
  induction n with
  | zero =>
    intro i hi
    have ei : i = e := by omega
    refine pk_le (p - 1) i (fun z => dw_an_f (P := post) (by omega) k) (fun z => ?_) (dw_p1 (by omega))
    rw [ei, ht (by omega)]
    exact br_t rfl (dw_an_t (P := post) (by omega) k)
  | succ n ih =>
    intro i hi
    have hv : g ^ i % p < p := Nat.mod_lt _ (by omega)
    refine pk_le (p - 1) i (fun z => absurd z (by omega)) (fun z => ?_) (dw_p1 (by omega))
    refine br_f (fun w => hn i (by omega) ((nI_eq (by omega) (by omega)).mp w)) ⟨nI_ne0 (by omega) (by omega), ?_⟩
    refine nm_r (e' := nI (g ^ (i + 1) % p)) ?_ (nm_r (nI_1 i) (ih (i + 1) (by omega)))
    rw [dw_tm (by omega) hp hv hg, dm_ps]
theorem dy_tl {post : Int32 → Prop} {p h k e : Nat} {a : Nat → Int32} (hp3 : 2 < p) (hp : p ≤ 2039) (hh : h < p) (hk : k < 2 ^ 20) (he : e ≤ p)
    (hn : ∀ i, 1 ≤ i → i < e → ¬ i ^ k % p = h) (ht : e < p → e ^ k % p = h) (H : post (dw_an e p (nI e) (-4))) :
    ∀ m u, 0 < u → u + m = e → wY_root_20 post (nI h) (nI k) (nI p) a (m + 1) (nI u) := by
  intro m
  induction m with
  | zero =>
    intro u h0 hu
    have eu : u = e := by omega
    refine pk_le p u (fun z => dw_an_f (P := post) (by omega) H) (fun z => ?_)
    refine dy_r hp3 hp z hk ?_
    rw [eu, ht (by omega)]
    exact br_t rfl (dw_an_t (P := post) (by omega) H)
  | succ m ih =>
    intro u h0 hu
    have hv : u ^ k % p < p := Nat.mod_lt _ (by omega)
    refine br_f (nI_ge (by omega) (by omega)) ?_
    refine dy_r hp3 hp (by omega) hk ?_
    refine br_f (fun w => hn u (by omega) (by omega) ((nI_eq (by omega) (by omega)).mp w)) ?_
    exact nm_r (nI_1 u) (ih (u + 1) (by omega) (by omega))
theorem dy_sl {post : Int32 → Prop} {p h k : Nat} {a : Nat → Int32} (hp3 : 2 < p) (hp : p ≤ 2039) (hh : h < p) (hk : k < 2 ^ 20)
    (H : post (nI (dm_cnt (fun i => (i + 1) ^ k % p == h) (p - 1)))) :
    ∀ m i, i + m = p - 1 → wY_roots_23 post (nI h) (nI k) (nI p) a (m + 1) (nI (dm_cnt (fun i => (i + 1) ^ k % p == h) i)) (nI (i + 1)) := by
  intro m
  induction m with
  | zero =>
    intro i hi
    have ei : i = p - 1 := by omega
    rw [ei]
    exact br_t (nI_le (by omega) (by omega)) H
  | succ m ih =>
    intro i hi
    have nx := ih (i + 1) (by omega)
    have hv : (i + 1) ^ k % p < p := Nat.mod_lt _ (by omega)
    refine br_f (nI_ge (by omega) (by omega)) ?_
    refine dy_r hp3 hp (by omega) hk ?_
    refine pk_eq ((i + 1) ^ k % p) h (fun z => ?_) (fun z => ?_)
    · rw [dm_cnt_t (P := fun i => (i + 1) ^ k % p == h) (by simpa using z)] at nx
      exact nm_r (nI_1 _) (nm_r (nI_1 _) nx)
    · rw [dm_cnt_f (P := fun i => (i + 1) ^ k % p == h) (by simpa using z)] at nx
      exact nm_r (nI_1 _) nx
theorem dy_nl {post : Int32 → SY → Prop} {p e : Nat} {a : Nat → Int32} (hp3 : 2 < p) (hp : p ≤ 2039) (he : e ≤ 2040) (hn : ∀ i, p + 1 ≤ i → i < e → ¬ dm_P i) (ht : e < 2040 → dm_P e)
    (h1 : e < 2040 → post (nI e) (nI e, a)) (h0 : ¬ e < 2040 → post (-4) (nI p, a)) :
    ∀ m n, p + 1 ≤ n → n + m = e → wY_nextPrime_7 post (nI p) a (m + 1) (nI n) := by
  intro m
  induction m with
  | zero =>
    intro n hl hm
    have en : n = e := by omega
    refine pk_lt 2039 n (fun z => h0 (by omega)) (fun z => ?_)
    refine dy_p (by omega) (by omega) (fun hq => br_f (by decide) ?_) (fun hq => absurd (ht (by omega)) (en ▸ hq))
    rw [en]
    exact h1 (by omega)
  | succ m ih =>
    intro n hl hm
    refine pk_lt 2039 n (fun z => absurd z (by omega)) (fun z => ?_)
    exact dy_p (by omega) (by omega) (fun hq => absurd hq (hn n hl (by omega))) (fun hq => br_t rfl (nm_r (nI_1 n) (ih (n + 1) (by omega) (by omega))))
theorem dy_wl {post : Int32 → Prop} {p g h r m X : Nat} {a : Nat → Int32} (hp3 : 2 < p) (hp : p ≤ 2039) (hg : g < p) (hh : h < p) (m0 : 0 < m) (m6 : m ≤ 60) (hr : r < m)
    (hX : X ≤ (p - 1) * m) (hn : ∀ x, x < X → ¬ (g ^ x % p = h ∧ x % m = r)) (ht : X < (p - 1) * m → g ^ X % p = h ∧ X % m = r)
    (k : post (dw_an X ((p - 1) * m) (nI X) (-4))) :
    ∀ n x, x + n = X → wY_logWith_47 post (nI g) (nI h) (nI r) (nI m) (nI p) a (n + 1) (nI (g ^ x % p)) (nI x) := by
  have hb : (p - 1) * m ≤ 2038 * 60 := Nat.mul_le_mul (by omega) m6
  have eb : (nI p - 1) * nI m = nI ((p - 1) * m) := by rw [dw_p1 (by omega), pk_mul]
  have m1 : ¬ nI m = 0 := nI_ne0 m0 (by omega)
  have p1 : ¬ nI p = 0 := nI_ne0 (by omega) (by omega)
  generalize hB : (p - 1) * m = B at hb eb hX ht k
  intro n
  induction n with
  | zero =>
    intro x hx
    have ex : x = X := by omega
    refine pk_le B x (fun z => dw_an_f (P := post) (by omega) k) (fun z => ?_) eb
    have t := ht (by omega)
    rw [ex, t.1]
    refine br_t rfl ⟨m1, ?_⟩
    rw [pk_rem (by omega) m0 (by omega), t.2]
    exact br_t rfl (dw_an_t (P := post) (by omega) k)
  | succ n ih =>
    intro x hx
    have hv : g ^ x % p < p := Nat.mod_lt _ (by omega)
    have hm : x % m < m := Nat.mod_lt _ m0
    have nx : wY_logWith_79 post (wY_logWith_47 post (nI g) (nI h) (nI r) (nI m) (nI p) a (n + 1)) (nI g) (nI h) (nI r) (nI m) (nI (g ^ x % p)) (nI x) (nI p) a := by
      refine ⟨p1, nm_r (e' := nI (g ^ (x + 1) % p)) ?_ (nm_r (nI_1 x) (ih (x + 1) (by omega)))⟩
      rw [dw_tm (by omega) hp hv hg, dm_ps]
    refine pk_le B x (fun z => absurd z (by omega)) (fun z => ?_) eb
    refine pk_eq (g ^ x % p) h (fun w => ⟨m1, ?_⟩) (fun w => nx)
    refine pk_eq (x % m) r (fun y => absurd ⟨w, y⟩ (hn x (by omega))) (fun y => nx) (pk_rem (by omega) m0 (by omega))
end
section
-- Y: common, by marks
theorem dy_k3 {post : Int32 → SY → Prop} {p g h : Nat} {a : Nat → Int32} (H : dw_M p) (g0 : 0 < g) (gp : g < p) (h0 : 0 < h) (hp : h < p)
    (K : dw_K p g (p - 1) a) (k : post (nI (Nat.gcd (dm_ord p g) (dm_ord p h))) (nI p, a)) :
    ∀ m x, x + m = dm_ord p h → wY_common_94 post (nI h) (nI (dm_ord p h)) (nI p) a (m + 1) (nI (h ^ (x + 1) % p))
      (nI (dm_cnt (fun x => dm_d (∃ y, y < p - 1 ∧ g ^ y % p = h ^ (x + 1) % p)) x)) (nI x) := by
  have p3 := H.1
  have p9 := H.2.1
  have ol := dw_Ole H h0 hp
  have cm := dw_common H g0 gp h0 hp
  intro m
  induction m with
  | zero =>
    intro x hx
    have ex : x = dm_ord p h := by omega
    rw [ex, cm]
    exact br_t (nI_le (Nat.le_refl _) (by omega)) k
  | succ m ih =>
    intro x hx
    have hv : h ^ (x + 1) % p < p := Nat.mod_lt _ (by omega)
    have nx := ih (x + 1) (by omega)
    have st : ∀ c : Nat, wY_common_94 post (nI h) (nI (dm_ord p h)) (nI p) a (m + 1) (nI (h ^ (x + 1 + 1) % p)) (nI c) (nI (x + 1)) →
        wY_common_113 post (wY_common_94 post (nI h) (nI (dm_ord p h)) (nI p) a (m + 1)) (nI h) (nI (h ^ (x + 1) % p)) (nI c) (nI (dm_ord p h)) (nI x) (nI p) a := by
      intro c w
      refine ⟨nI_ne0 (by omega) (by omega), nm_r (e' := nI (h ^ (x + 1 + 1) % p)) ?_ (nm_r (nI_1 x) w)⟩
      rw [dw_tm (by omega) p9 hv hp, dm_ps]
    refine br_f (nI_ge (by omega) (by omega)) ⟨vp_in_nI (by omega) (by omega), ?_⟩
    rw [nI_clamp (by omega)]
    by_cases z : a (h ^ (x + 1) % p) = 0
    · refine br_t z (st _ ?_)
      rw [dm_cnt_f (P := fun x => dm_d (∃ y, y < p - 1 ∧ g ^ y % p = h ^ (x + 1) % p)) (fun w => (K _ hv).mpr (dm_d_iff.mp w) z)] at nx
      exact nx
    · refine br_f z (nm_r (nI_1 _) (st _ ?_))
      rw [dm_cnt_t (P := fun x => dm_d (∃ y, y < p - 1 ∧ g ^ y % p = h ^ (x + 1) % p)) (dm_d_iff.mpr ((K _ hv).mp z))] at nx
      exact nx
theorem dy_k2 {post : Int32 → SY → Prop} {p g h : Nat} (H : dw_M p) (g0 : 0 < g) (gp : g < p) (h0 : 0 < h) (hp : h < p)
    (k : ∀ a, post (nI (Nat.gcd (dm_ord p g) (dm_ord p h))) (nI p, a)) :
    ∀ m x a, x + m = p - 1 → dw_K p g x a → wY_common_46 post (nI g) (nI h) (nI p) (m + 1) (nI (g ^ x % p)) (nI x) a := by
  have p3 := H.1
  have p9 := H.2.1
  intro m
  induction m with
  | zero =>
    intro x a hx K
    have ex : x = p - 1 := by omega
    rw [ex] at K ⊢
    refine pk_le (p - 1) (p - 1) (fun z => ?_) (fun z => absurd z (by omega)) (dw_p1 (by omega))
    refine dy_o H h0 hp ?_
    have e := dy_k3 H g0 gp h0 hp K (k a) (dm_ord p h) 0 (by omega)
    rw [dw_self hp] at e
    exact ⟨_, e⟩
  | succ m ih =>
    intro x a hx K
    have hv : g ^ x % p < p := Nat.mod_lt _ (by omega)
    refine pk_le (p - 1) x (fun z => absurd z (by omega)) (fun z => ?_) (dw_p1 (by omega))
    refine ⟨vp_in_nI (by omega) (by omega), ?_⟩
    rw [nI_clamp (by omega)]
    refine nm_e ⟨nI_ne0 (by omega) (by omega), nm_r (e' := nI (g ^ (x + 1) % p)) ?_ (nm_r (nI_1 x) (ih (x + 1) _ (by omega) (dw_K1 K dw_bo1)))⟩
    rw [dw_tm (by omega) p9 hv gp, dm_ps]
theorem dy_k1 {post : Int32 → SY → Prop} {p g h : Nat} (H : dw_M p) (g0 : 0 < g) (gp : g < p) (h0 : 0 < h) (hp : h < p)
    (k : ∀ a, post (nI (Nat.gcd (dm_ord p g) (dm_ord p h))) (nI p, a)) :
    ∀ m u a, u + m = p → dw_Z u a → wY_common_20 post (nI g) (nI h) (nI p) (m + 1) (nI u) a := by
  have p3 := H.1
  have p9 := H.2.1
  intro m
  induction m with
  | zero =>
    intro u a hu Z
    have eu : u = p := by omega
    rw [eu] at Z ⊢
    refine br_t (nI_le (Nat.le_refl p) (by omega)) ?_
    have e := dy_k2 H g0 gp h0 hp k (p - 1) 0 a (by omega) (dw_K0 Z)
    rw [dw_zero p3] at e
    exact ⟨_, e⟩
  | succ m ih =>
    intro u a hu Z
    refine br_f (nI_ge (by omega) (by omega)) ⟨vp_in_nI (by omega) (by omega), ?_⟩
    rw [nI_clamp (by omega)]
    exact nm_e (nm_r (nI_1 u) (ih (u + 1) _ (by omega) (dw_Z1 Z dw_bo0)))
end
section
-- the relation and the owed statements
theorem dv_x {A B : Prop} {p g : Nat} (hp : p ≤ 2039) (g0 : 0 < g) (gp : g < p) (b : B) :
    wpX_isUnit (fun r => (r = 0 → A) ∧ (¬ r = 0 → B)) (nI p) (nI g) := dx_u1 hp g0 gp (br_f (by decide) b)
theorem dv_y {A B : Prop} {p g : Nat} {a : Nat → Int32} (hp : p ≤ 2039) (g0 : 0 < g) (gp : g < p) (b : B) :
    wpY_isUnit (fun r => (r = 0 → A) ∧ (¬ r = 0 → B)) (nI p, a) (nI g) := dy_u1 hp g0 gp (br_f (by decide) b)
theorem dv_x0 {A B : Prop} {p : Nat} {v : Int32} (hv : v < 1 ∨ (¬ v < 1 ∧ nI p ≤ v)) (b : A) :
    wpX_isUnit (fun r => (r = 0 → A) ∧ (¬ r = 0 → B)) (nI p) v := dx_u0 hv (br_t rfl b)
theorem dv_y0 {A B : Prop} {p : Nat} {v : Int32} {a : Nat → Int32} (hv : v < 1 ∨ (¬ v < 1 ∧ nI p ≤ v)) (b : A) :
    wpY_isUnit (fun r => (r = 0 → A) ∧ (¬ r = 0 → B)) (nI p, a) v := dy_u0 hv (br_t rfl b)
theorem dv_1 : ¬ (1 : Int32) = 0 := by decide
theorem dv_n0 {v w : Int32} (h : ¬ v < w) (hw : (0 : Int32) < w) : ¬ v < 0 := fun z => h (Int32.lt_trans z hw)
theorem dv_ge {n b : Nat} (hb : b < 2 ^ 31) (h : ¬ nI n < nI b) : b ≤ n := by
  rcases Nat.lt_or_ge n b with z | z
  · exact absurd (nI_lt z hb) h
  · exact z
theorem dv_1le {v : Int32} (h : 1 ≤ v) : ∃ d, 0 < d ∧ d < 2 ^ 31 ∧ v = nI d := by
  have z : ¬ v < 0 := fun w => Int32.lt_irrefl (Int32.lt_of_lt_of_le (Int32.lt_of_lt_of_le w (show (0 : Int32) ≤ 1 by decide)) h)
  obtain ⟨d, hd, rfl⟩ := nI_of z
  exact ⟨d, (nI_leI (a := 1) (by decide) hd).mp h, hd, rfl⟩
def i_Rel (_ : Nat) (u : SX) (v : SY) : Prop := ∃ p a, dw_M p ∧ u = nI p ∧ v = (nI p, a)
theorem i_up {k : Nat} {u : SX} {v : SY} (h : i_Rel k u v) : i_Rel (k + 5) u v := h
theorem i_vc0 : wpX_init (fun u => wpY_init (fun v => i_Rel 0 u v)) := by
  show i_Rel 0 (3 : Int32) ((3 : Int32), fun _ => 0)
  exact ⟨3, fun _ => 0, ⟨by decide, by decide, fun d a b => by
    have e : d = 2 := by omega
    rw [e]
    decide⟩, rfl, rfl⟩
theorem i_vc_prime {k : Nat} {u : SX} {v : SY} (I : i_Rel k u v) (hk : k + 5 ≤ 2560) (v1 : Int32) : wpX_prime (fun r u' => wpY_prime (fun r' v' => r' = r ∧ i_Rel (k + 5) u' v') v v1) u v1 := by
  obtain ⟨p, a, H, rfl, rfl⟩ := I
  have R : i_Rel (k + 5) (nI p) (nI p, a) := ⟨p, a, H, rfl, rfl⟩
  unfold wpX_prime wpY_prime
  dsimp only
  by_cases h3 : v1 < 3
  · exact br_t h3 (br_t h3 ⟨rfl, R⟩)
  · by_cases h9 : 2039 < v1
    · exact br_f h3 (br_t h9 (br_f h3 (br_t h9 ⟨rfl, R⟩)))
    · obtain ⟨n, hn, rfl⟩ := nI_of2 (n := 2039) (M := 2039) (by decide) (dv_n0 h3 (by decide)) (Int32.not_lt.mp h9)
      have n3 : 3 ≤ n := dv_ge (by decide) h3
      refine br_f h3 (br_f h9 (dx_p (by omega) (fun q => br_f dv_1 ?_) (fun q => br_t rfl ?_)))
      · exact br_f h3 (br_f h9 (dy_p (by omega) n3 (fun _ => br_f dv_1 ⟨rfl, n, a, ⟨by omega, hn, q⟩, rfl, rfl⟩) (fun z => absurd q z)))
      · exact br_f h3 (br_f h9 (dy_p (by omega) n3 (fun z => absurd z q) (fun _ => br_t rfl ⟨rfl, R⟩)))
theorem i_vc_modulus {k : Nat} {u : SX} {v : SY} (I : i_Rel k u v) (hk : k + 5 ≤ 2560) : wpX_modulus (fun r => wpY_modulus (fun r' => r' = r ∧ i_Rel (k + 5) u v) v) u := by
  obtain ⟨p, a, H, rfl, rfl⟩ := I
  unfold wpX_modulus wpY_modulus
  dsimp only
  exact ⟨rfl, p, a, H, rfl, rfl⟩
theorem i_vc_nextPrime {k : Nat} {u : SX} {v : SY} (I : i_Rel k u v) (hk : k + 5 ≤ 2560) : wpX_nextPrime (fun r u' => wpY_nextPrime (fun r' v' => r' = r ∧ i_Rel (k + 5) u' v') v) u := by
  obtain ⟨p, a, H, rfl, rfl⟩ := I
  have R : i_Rel (k + 5) (nI p) (nI p, a) := ⟨p, a, H, rfl, rfl⟩
  have h3 := H.1
  have h9 := H.2.1
  unfold wpX_nextPrime wpY_nextPrime
  dsimp only
  obtain ⟨e, e1, he, hn, ht⟩ := dw_end dm_P (p + 1) 2040 (by omega)
  refine nm_r (nI_1 p) ⟨_, dx_nl h9 he hn ht (fun z => ?_) (fun z => ?_) (e - (p + 1)) (p + 1) (by omega) (by omega)⟩
  · exact nm_r (nI_1 p) ⟨_, dy_nl h3 h9 he hn ht (fun _ => ⟨rfl, e, a, ⟨by omega, by omega, ht z⟩, rfl, rfl⟩) (fun w => absurd z w) (e - (p + 1)) (p + 1) (by omega) (by omega)⟩
  · exact nm_r (nI_1 p) ⟨_, dy_nl h3 h9 he hn ht (fun w => absurd w z) (fun _ => ⟨rfl, R⟩) (e - (p + 1)) (p + 1) (by omega) (by omega)⟩
theorem i_vc_power {k : Nat} {u : SX} {v : SY} (I : i_Rel k u v) (hk : k + 5 ≤ 2560) (v1 : Int32) (v2 : Int32) : wpX_power (fun r => wpY_power (fun r' => r' = r ∧ i_Rel (k + 5) u v) v v1 v2) u v1 v2 := by
  obtain ⟨p, a, H, rfl, rfl⟩ := I
  have R : i_Rel (k + 5) (nI p) (nI p, a) := ⟨p, a, H, rfl, rfl⟩
  unfold wpX_power wpY_power
  dsimp only
  rcases dw_unit v1 H.1 H.2.1 with ⟨g, g0, gp, rfl⟩ | z
  · by_cases h0 : v2 < 0
    · exact dv_x H.2.1 g0 gp (br_t h0 (dv_y H.2.1 g0 gp (br_t h0 ⟨rfl, R⟩)))
    · by_cases h1 : v2 ≤ 1000000
      · obtain ⟨x, hx, rfl⟩ := nI_of2 (n := 1000000) (M := 1000000) (by decide) h0 h1
        exact dv_x H.2.1 g0 gp (br_f h0 (br_t h1 (dx_r H.1 H.2.1 gp (by omega) (dv_y H.2.1 g0 gp (br_f h0 (br_t h1 (dy_r H.1 H.2.1 gp (by omega) ⟨rfl, R⟩)))))))
      · exact dv_x H.2.1 g0 gp (br_f h0 (br_f h1 (dv_y H.2.1 g0 gp (br_f h0 (br_f h1 ⟨rfl, R⟩)))))
  · exact dv_x0 z (dv_y0 z ⟨rfl, R⟩)
theorem i_vc_inverse {k : Nat} {u : SX} {v : SY} (I : i_Rel k u v) (hk : k + 5 ≤ 2560) (v1 : Int32) : wpX_inverse (fun r => wpY_inverse (fun r' => r' = r ∧ i_Rel (k + 5) u v) v v1) u v1 := by
  obtain ⟨p, a, H, rfl, rfl⟩ := I
  have R : i_Rel (k + 5) (nI p) (nI p, a) := ⟨p, a, H, rfl, rfl⟩
  have h3 := H.1
  have h9 := H.2.1
  unfold wpX_inverse wpY_inverse
  dsimp only
  rcases dw_unit v1 H.1 H.2.1 with ⟨g, g0, gp, rfl⟩ | z
  · refine dv_x H.2.1 g0 gp ?_
    rw [dw_p2 (by omega)]
    refine dx_r h3 h9 gp (by omega) ?_
    refine dv_y H.2.1 g0 gp ?_
    have q := dy_il (a := a) (post := fun r' => r' = nI (g ^ (p - 2) % p) ∧ i_Rel (k + 5) (nI p) (nI p, a)) H g0 gp ⟨rfl, R⟩ (p - 1) 1 (by omega) (by omega)
    have i0 := dw_inv0 H g0 gp
    unfold dw_an at q
    rw [if_neg (by omega)] at q
    exact ⟨_, q⟩
  · exact dv_x0 z (dv_y0 z ⟨rfl, R⟩)
theorem i_vc_order {k : Nat} {u : SX} {v : SY} (I : i_Rel k u v) (hk : k + 5 ≤ 2560) (v1 : Int32) : wpX_order (fun r => wpY_order (fun r' => r' = r ∧ i_Rel (k + 5) u v) v v1) u v1 := by
  obtain ⟨p, a, H, rfl, rfl⟩ := I
  have R : i_Rel (k + 5) (nI p) (nI p, a) := ⟨p, a, H, rfl, rfl⟩
  unfold wpX_order wpY_order
  dsimp only
  rcases dw_unit v1 H.1 H.2.1 with ⟨g, g0, gp, rfl⟩ | z
  · exact dv_x H.2.1 g0 gp (dx_o H g0 gp (dv_y H.2.1 g0 gp (dy_o H g0 gp ⟨rfl, R⟩)))
  · exact dv_x0 z (dv_y0 z ⟨rfl, R⟩)
theorem i_vc_generator {k : Nat} {u : SX} {v : SY} (I : i_Rel k u v) (hk : k + 5 ≤ 2560) : wpX_generator (fun r => wpY_generator (fun r' => r' = r ∧ i_Rel (k + 5) u v) v) u := by
  obtain ⟨p, a, H, rfl, rfl⟩ := I
  have R : i_Rel (k + 5) (nI p) (nI p, a) := ⟨p, a, H, rfl, rfl⟩
  have h3 := H.1
  have h9 := H.2.1
  unfold wpX_generator wpY_generator wpY_unitOfOrder
  dsimp only
  rw [dw_p1 (by omega)]
  have h1 : (1 : Int32) ≤ nI (p - 1) := nI_le (a := 1) (by omega) (by omega)
  obtain ⟨e, e1, he, hn, ht⟩ := dw_end (fun i => dm_ord p i = p - 1) 1 p (by omega)
  exact dx_l H (by omega) (by omega) he e1 hn ht (br_t h1 ⟨_, dy_ll H (by omega) he hn ht ⟨rfl, R⟩ (e - 1) 1 (by omega) (by omega)⟩)
theorem i_vc_generators {k : Nat} {u : SX} {v : SY} (I : i_Rel k u v) (hk : k + 5 ≤ 2560) : wpX_generators (fun r => wpY_generators (fun r' => r' = r ∧ i_Rel (k + 5) u v) v) u := by
  obtain ⟨p, a, H, rfl, rfl⟩ := I
  have R : i_Rel (k + 5) (nI p) (nI p, a) := ⟨p, a, H, rfl, rfl⟩
  have h3 := H.1
  have h9 := H.2.1
  unfold wpX_generators wpY_generators wpY_unitsOfOrder
  dsimp only
  rw [dw_p1 (by omega)]
  have h1 : (1 : Int32) ≤ nI (p - 1) := nI_le (a := 1) (by omega) (by omega)
  exact dx_c H (by omega) (by omega) (br_t h1 ⟨_, dy_cl H (by omega) ⟨rfl, R⟩ (p - 1) 0 (by omega)⟩)
theorem i_vc_log {k : Nat} {u : SX} {v : SY} (I : i_Rel k u v) (hk : k + 5 ≤ 2560) (v1 : Int32) (v2 : Int32) : wpX_log (fun r => wpY_log (fun r' => r' = r ∧ i_Rel (k + 5) u v) v v1 v2) u v1 v2 := by
  obtain ⟨p, a, H, rfl, rfl⟩ := I
  have R : i_Rel (k + 5) (nI p) (nI p, a) := ⟨p, a, H, rfl, rfl⟩
  have h3 := H.1
  have h9 := H.2.1
  unfold wpX_log wpY_log
  dsimp only
  rcases dw_unit v1 H.1 H.2.1 with ⟨g, g0, gp, rfl⟩ | z
  · rcases dw_unit v2 H.1 H.2.1 with ⟨h, h0, hp, rfl⟩ | w
    · obtain ⟨e, _, he, hn, ht⟩ := dw_end (fun i => g ^ i % p = h) 0 (p - 1) (by omega)
      refine dv_x h9 g0 gp (dv_x h9 h0 hp ?_)
      refine dx_e (e := e) (r := 0) (m := 1) h3 h9 gp hp (by omega) (by omega) he (fun i hi => ?_) (fun hi => ?_) ?_
      · rw [Nat.zero_add, Nat.mul_one]
        exact hn i (by omega) hi
      · rw [Nat.zero_add, Nat.mul_one]
        exact ht hi
      · rw [Nat.zero_add, Nat.mul_one]
        refine dv_y h9 g0 gp (dv_y h9 h0 hp ?_)
        have q := dy_el (a := a) (post := fun r' => r' = dw_an e (p - 1) (nI e) (-4) ∧ i_Rel (k + 5) (nI p) (nI p, a)) h3 h9 gp hp he (fun i hi => hn i (by omega) hi) ht ⟨rfl, R⟩ e 0 (by omega)
        rw [dw_zero h3] at q
        exact ⟨_, q⟩
    · exact dv_x h9 g0 gp (dv_x0 w (dv_y h9 g0 gp (dv_y0 w ⟨rfl, R⟩)))
  · exact dv_x0 z (dv_y0 z ⟨rfl, R⟩)
theorem i_vc_root {k : Nat} {u : SX} {v : SY} (I : i_Rel k u v) (hk : k + 5 ≤ 2560) (v1 : Int32) (v2 : Int32) : wpX_root (fun r => wpY_root (fun r' => r' = r ∧ i_Rel (k + 5) u v) v v1 v2) u v1 v2 := by
  obtain ⟨p, a, H, rfl, rfl⟩ := I
  have R : i_Rel (k + 5) (nI p) (nI p, a) := ⟨p, a, H, rfl, rfl⟩
  have h3 := H.1
  have h9 := H.2.1
  unfold wpX_root wpX_isRootQuestion wpY_root wpY_isExponent
  dsimp only
  rcases dw_unit v1 H.1 H.2.1 with ⟨g, g0, gp, rfl⟩ | z
  · by_cases k1 : v2 < 1
    · exact dv_x h9 g0 gp (br_t k1 (br_t rfl (dv_y h9 g0 gp (br_t k1 (br_t rfl ⟨rfl, R⟩)))))
    · by_cases k2 : 1000000 < v2
      · exact dv_x h9 g0 gp (br_f k1 (br_t k2 (br_t rfl (dv_y h9 g0 gp (br_f k1 (br_t k2 (br_t rfl ⟨rfl, R⟩)))))))
      · obtain ⟨x, hx, rfl⟩ := nI_of2 (n := 1000000) (M := 1000000) (by decide) (dv_n0 k1 (by decide)) (Int32.not_lt.mp k2)
        obtain ⟨e, e1, he, hn, ht⟩ := dw_end (fun i => i ^ x % p = g) 1 p (by omega)
        refine dv_x h9 g0 gp (br_f k1 (br_f k2 (br_f dv_1 ⟨_, dx_tl h3 h9 gp (by omega) he hn ht ?_ (e - 1) 1 (by omega) (by omega)⟩)))
        exact dv_y h9 g0 gp (br_f k1 (br_f k2 (br_f dv_1 ⟨_, dy_tl h3 h9 gp (by omega) he hn ht ⟨rfl, R⟩ (e - 1) 1 (by omega) (by omega)⟩)))
  · exact dv_x0 z (br_t rfl (dv_y0 z ⟨rfl, R⟩))
theorem i_vc_roots {k : Nat} {u : SX} {v : SY} (I : i_Rel k u v) (hk : k + 5 ≤ 2560) (v1 : Int32) (v2 : Int32) : wpX_roots (fun r => wpY_roots (fun r' => r' = r ∧ i_Rel (k + 5) u v) v v1 v2) u v1 v2 := by
  obtain ⟨p, a, H, rfl, rfl⟩ := I
  have R : i_Rel (k + 5) (nI p) (nI p, a) := ⟨p, a, H, rfl, rfl⟩
  have h3 := H.1
  have h9 := H.2.1
  unfold wpX_roots wpX_isRootQuestion wpY_roots wpY_isExponent
  dsimp only
  rcases dw_unit v1 H.1 H.2.1 with ⟨g, g0, gp, rfl⟩ | z
  · by_cases k1 : v2 < 1
    · exact dv_x h9 g0 gp (br_t k1 (br_t rfl (dv_y h9 g0 gp (br_t k1 (br_t rfl ⟨rfl, R⟩)))))
    · by_cases k2 : 1000000 < v2
      · exact dv_x h9 g0 gp (br_f k1 (br_t k2 (br_t rfl (dv_y h9 g0 gp (br_f k1 (br_t k2 (br_t rfl ⟨rfl, R⟩)))))))
      · obtain ⟨x, hx, rfl⟩ := nI_of2 (n := 1000000) (M := 1000000) (by decide) (dv_n0 k1 (by decide)) (Int32.not_lt.mp k2)
        refine dv_x h9 g0 gp (br_f k1 (br_f k2 (br_f dv_1 ⟨_, dx_sl h3 h9 gp (by omega) ?_ (p - 1) 0 (by omega)⟩)))
        exact dv_y h9 g0 gp (br_f k1 (br_f k2 (br_f dv_1 ⟨_, dy_sl h3 h9 gp (by omega) ⟨rfl, R⟩ (p - 1) 0 (by omega)⟩)))
  · exact dv_x0 z (br_t rfl (dv_y0 z ⟨rfl, R⟩))
theorem dv_lw {post : Int32 → Prop} {p g h r m e : Nat} {a : Nat → Int32} (h3 : 2 < p) (h9 : p ≤ 2039) (gp : g < p) (hp : h < p) (m0 : 0 < m) (m6 : m ≤ 60) (hr : r < m) (he : e ≤ p - 1)
    (hn : ∀ i, i < e → ¬ g ^ (r + i * m) % p = h) (ht : e < p - 1 → g ^ (r + e * m) % p = h)
    (k : post (dw_an e (p - 1) (nI (r + e * m)) (-4))) : ∃ n, wY_logWith_47 post (nI g) (nI h) (nI r) (nI m) (nI p) a n 1 0 := by
  by_cases z : e < p - 1
  · have zb := dw_lwb (r := r) (m := m) hr z
    have q := dy_wl (post := post) (a := a) h3 h9 gp hp m0 m6 hr (Nat.le_of_lt zb) (fun x hx => dw_lw (p := p) m0 hr (fun x => g ^ x % p = h) hn (Or.inl hx)) (fun _ => ⟨ht z, dw_lwe hr⟩)
      (by
        have k1 := dw_an_t (P := post) z k
        unfold dw_an
        rw [if_pos zb]
        exact k1) (r + e * m) 0 (by omega)
    rw [dw_zero h3] at q
    exact ⟨_, q⟩
  · have ez : e = p - 1 := by omega
    have q := dy_wl (post := post) (a := a) h3 h9 gp hp m0 m6 hr (Nat.le_refl _) (fun x hx => dw_lw m0 hr (fun x => g ^ x % p = h) hn (Or.inr ⟨ez, hx⟩)) (fun w => absurd w (Nat.lt_irrefl _))
      (by
        have k1 := dw_an_f (P := post) z k
        unfold dw_an
        rw [if_neg (Nat.lt_irrefl _)]
        exact k1) ((p - 1) * m) 0 (by omega)
    rw [dw_zero h3] at q
    exact ⟨_, q⟩
theorem i_vc_logWith {k : Nat} {u : SX} {v : SY} (I : i_Rel k u v) (hk : k + 5 ≤ 2560) (v1 : Int32) (v2 : Int32) (v3 : Int32) (v4 : Int32) : wpX_logWith (fun r => wpY_logWith (fun r' => r' = r ∧ i_Rel (k + 5) u v) v v1 v2 v3 v4) u v1 v2 v3 v4 := by
  obtain ⟨p, a, H, rfl, rfl⟩ := I
  have R : i_Rel (k + 5) (nI p) (nI p, a) := ⟨p, a, H, rfl, rfl⟩
  have h3 := H.1
  have h9 := H.2.1
  unfold wpX_logWith wpY_logWith
  dsimp only
  rcases dw_unit v1 H.1 H.2.1 with ⟨g, g0, gp, rfl⟩ | z
  · rcases dw_unit v2 H.1 H.2.1 with ⟨h, h0, hp, rfl⟩ | w
    · refine dv_x h9 g0 gp (dv_x h9 h0 hp ?_)
      by_cases c1 : v4 < 1
      · exact br_t c1 (dv_y h9 g0 gp (dv_y h9 h0 hp (br_t c1 ⟨rfl, R⟩)))
      · by_cases c2 : 60 < v4
        · exact br_f c1 (br_t c2 (dv_y h9 g0 gp (dv_y h9 h0 hp (br_f c1 (br_t c2 ⟨rfl, R⟩)))))
        · by_cases c3 : v3 < 0
          · exact br_f c1 (br_f c2 (br_t c3 (dv_y h9 g0 gp (dv_y h9 h0 hp (br_f c1 (br_f c2 (br_t c3 ⟨rfl, R⟩)))))))
          · by_cases c4 : v3 < v4
            · obtain ⟨m, hm, rfl⟩ := nI_of2 (n := 60) (M := 60) (by decide) (dv_n0 c1 (by decide)) (Int32.not_lt.mp c2)
              obtain ⟨r, hr, rfl⟩ := nI_of c3
              have rm : r < m := (nI_ltI hr (by omega)).mp c4
              obtain ⟨e, _, he, hn, ht⟩ := dw_end (fun i => g ^ (r + i * m) % p = h) 0 (p - 1) (by omega)
              refine br_f c1 (br_f c2 (br_f c3 (br_t c4 (dx_e h3 h9 gp hp (by omega) hm he (fun i hi => hn i (by omega) hi) ht ?_))))
              exact dv_y h9 g0 gp (dv_y h9 h0 hp (br_f c1 (br_f c2 (br_f c3 (br_t c4 (dv_lw h3 h9 gp hp (by omega) hm rm he (fun i hi => hn i (by omega) hi) ht ⟨rfl, R⟩))))))
            · exact br_f c1 (br_f c2 (br_f c3 (br_f c4 (dv_y h9 g0 gp (dv_y h9 h0 hp (br_f c1 (br_f c2 (br_f c3 (br_f c4 ⟨rfl, R⟩)))))))))
    · exact dv_x h9 g0 gp (dv_x0 w (dv_y h9 g0 gp (dv_y0 w ⟨rfl, R⟩)))
  · exact dv_x0 z (dv_y0 z ⟨rfl, R⟩)
theorem i_vc_common {k : Nat} {u : SX} {v : SY} (I : i_Rel k u v) (hk : k + 5 ≤ 2560) (v1 : Int32) (v2 : Int32) : wpX_common (fun r => wpY_common (fun r' v' => r' = r ∧ i_Rel (k + 5) u v') v v1 v2) u v1 v2 := by
  obtain ⟨p, a, H, rfl, rfl⟩ := I
  have R : ∀ a, i_Rel (k + 5) (nI p) (nI p, a) := fun a => ⟨p, a, H, rfl, rfl⟩
  have h3 := H.1
  have h9 := H.2.1
  unfold wpX_common wpY_common
  dsimp only
  rcases dw_unit v1 H.1 H.2.1 with ⟨g, g0, gp, rfl⟩ | z
  · rcases dw_unit v2 H.1 H.2.1 with ⟨h, h0, hp, rfl⟩ | w
    · have og := dw_Ole H g0 gp
      have oh := dw_Ole H h0 hp
      refine dv_x h9 g0 gp (dv_x h9 h0 hp (dx_o H g0 gp (dx_o H h0 hp (dx_g (by omega) (by omega) (dw_O H g0 gp).1.1 ?_))))
      exact dv_y h9 g0 gp (dv_y h9 h0 hp ⟨_, dy_k1 H g0 gp h0 hp (fun a => ⟨rfl, R a⟩) p 0 a (by omega) (fun i hi => absurd hi (Nat.not_lt_zero i))⟩)
    · exact dv_x h9 g0 gp (dv_x0 w (dv_y h9 g0 gp (dv_y0 w ⟨rfl, R a⟩)))
  · exact dv_x0 z (dv_y0 z ⟨rfl, R a⟩)
theorem i_vc_unitOfOrder {k : Nat} {u : SX} {v : SY} (I : i_Rel k u v) (hk : k + 5 ≤ 2560) (v1 : Int32) : wpX_unitOfOrder (fun r => wpY_unitOfOrder (fun r' => r' = r ∧ i_Rel (k + 5) u v) v v1) u v1 := by
  obtain ⟨p, a, H, rfl, rfl⟩ := I
  have R : i_Rel (k + 5) (nI p) (nI p, a) := ⟨p, a, H, rfl, rfl⟩
  have h3 := H.1
  unfold wpX_unitOfOrder wpY_unitOfOrder
  dsimp only
  by_cases h1 : 1 ≤ v1
  · obtain ⟨d, d0, hd, rfl⟩ := dv_1le h1
    obtain ⟨e, e1, he, hn, ht⟩ := dw_end (fun i => dm_ord p i = d) 1 p (by omega)
    exact br_t h1 (dx_l H d0 hd he e1 hn ht (br_t h1 ⟨_, dy_ll H hd he hn ht ⟨rfl, R⟩ (e - 1) 1 (by omega) (by omega)⟩))
  · exact br_f h1 (br_f h1 ⟨rfl, R⟩)
theorem i_vc_unitsOfOrder {k : Nat} {u : SX} {v : SY} (I : i_Rel k u v) (hk : k + 5 ≤ 2560) (v1 : Int32) : wpX_unitsOfOrder (fun r => wpY_unitsOfOrder (fun r' => r' = r ∧ i_Rel (k + 5) u v) v v1) u v1 := by
  obtain ⟨p, a, H, rfl, rfl⟩ := I
  have R : i_Rel (k + 5) (nI p) (nI p, a) := ⟨p, a, H, rfl, rfl⟩
  have h3 := H.1
  unfold wpX_unitsOfOrder wpY_unitsOfOrder
  dsimp only
  by_cases h1 : 1 ≤ v1
  · obtain ⟨d, d0, hd, rfl⟩ := dv_1le h1
    exact br_t h1 (dx_c H d0 hd (br_t h1 ⟨_, dy_cl H hd ⟨rfl, R⟩ (p - 1) 0 (by omega)⟩))
  · exact br_f h1 (br_f h1 ⟨rfl, R⟩)
end
