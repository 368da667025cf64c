-- powers modulo p, orders, a generator
def dm_O (p u o : Nat) : Prop := 0 < o ∧ ∀ x, u ^ x % p = 1 ↔ o ∣ x
theorem dm_O_one {p u o : Nat} (h : dm_O p u o) : u ^ o % p = 1 := (h.2 o).mpr (Nat.dvd_refl o)
theorem dm_O_not {p u o x : Nat} (h : dm_O p u o) (h0 : 0 < x) (hx : x < o) : u ^ x % p ≠ 1 := fun z => by
  have := Nat.le_of_dvd h0 ((h.2 x).mp z)
  omega
theorem dm_O_of {p u o : Nat} (hp : 1 < p) (h0 : 0 < o) (h1 : u ^ o % p = 1)
    (h2 : ∀ x, 0 < x → x < o → u ^ x % p ≠ 1) : dm_O p u o := by
  have hk : ∀ k, (u ^ o) ^ k % p = 1 := fun k => by
    rw [Nat.pow_mod, h1, Nat.one_pow, Nat.mod_eq_of_lt hp]
  have hx : ∀ x, u ^ x % p = u ^ (x % o) % p := fun x => by
    have e : u ^ x = (u ^ o) ^ (x / o) * u ^ (x % o) := by
      rw [← Nat.pow_mul, ← Nat.pow_add, Nat.div_add_mod]
    rw [e, Nat.mul_mod, hk, Nat.one_mul, Nat.mod_mod]
  refine ⟨h0, fun x => ⟨fun h => ?_, fun h => ?_⟩⟩
  · rw [hx x] at h
    by_cases z : x % o = 0
    · exact Nat.dvd_of_mod_eq_zero z
    · exact absurd h (h2 _ (by omega) (Nat.mod_lt _ h0))
  · obtain ⟨k, e⟩ := h
    rw [e, Nat.pow_mul]
    exact hk k
theorem dm_O_uniq {p u a b : Nat} (h : dm_O p u a) (k : dm_O p u b) : a = b :=
  Nat.dvd_antisymm ((h.2 b).mp (dm_O_one k)) ((k.2 a).mp (dm_O_one h))
theorem dm_O_ex {p u n : Nat} (hp : 1 < p) (hn : 0 < n) (h : u ^ n % p = 1) : ∃ o, dm_O p u o := by
  obtain ⟨o, ⟨h0, h1⟩, h2⟩ := pk_least (fun x => 0 < x ∧ u ^ x % p = 1) ⟨n, hn, h⟩
  exact ⟨o, dm_O_of hp h0 h1 (fun x a b c => h2 x b ⟨a, c⟩)⟩
noncomputable def dm_ord (p u : Nat) : Nat := Classical.epsilon (fun o => dm_O p u o)
theorem dm_ord_eq {p u o : Nat} (h : dm_O p u o) : dm_ord p u = o :=
  dm_O_uniq (Classical.epsilon_spec (p := fun o => dm_O p u o) ⟨o, h⟩) h
theorem dm_pp (p c i x : Nat) : (c ^ i % p) ^ x % p = c ^ (i * x) % p := by
  rw [← Nat.pow_mod, ← Nat.pow_mul]
theorem dm_ps (p g x : Nat) : g ^ x % p * g % p = g ^ (x + 1) % p := by
  rw [Nat.mod_mul_mod, ← Nat.pow_succ]
theorem dm_per {p u o : Nat} (h : dm_O p u o) (x : Nat) : u ^ x % p = u ^ (x % o) % p := by
  have e : u ^ x = u ^ (o * (x / o)) * u ^ (x % o) := by
    rw [← Nat.pow_add, Nat.div_add_mod]
  rw [e, Nat.mul_mod, (h.2 (o * (x / o))).mpr (Nat.dvd_mul_right o _), Nat.one_mul, Nat.mod_mod]
theorem dm_inj1 {p c o i j : Nat} (h : dm_O p c o) (hij : i ≤ j) (hj : j < o) (e : c ^ i % p = c ^ j % p) : i = j := by
  have b : (c ^ j * c ^ (o - i)) % p = 1 := by
    rw [Nat.mul_mod, ← e, ← Nat.mul_mod, ← Nat.pow_add, Nat.add_sub_cancel' (by omega)]
    exact dm_O_one h
  have c' : c ^ j * c ^ (o - i) = c ^ o * c ^ (j - i) := by
    rw [← Nat.pow_add, ← Nat.pow_add]
    congr 1
    omega
  rw [c', Nat.mul_mod, dm_O_one h, Nat.one_mul, Nat.mod_mod] at b
  have := Nat.eq_zero_of_dvd_of_lt ((h.2 _).mp b) (by omega)
  omega
theorem dm_inj {p c o i j : Nat} (h : dm_O p c o) (hi : i < o) (hj : j < o) (e : c ^ i % p = c ^ j % p) : i = j := by
  by_cases hij : i ≤ j
  · exact dm_inj1 h hij hj e
  · exact (dm_inj1 h (by omega) hi e.symm).symm
theorem dm_nz {p c o i : Nat} (h : dm_O p c o) (hi : i ≤ o) : c ^ i % p ≠ 0 := fun z => by
  have a := dm_O_one h
  have e : c ^ o = c ^ i * c ^ (o - i) := by rw [← Nat.pow_add, Nat.add_sub_cancel' hi]
  rw [e, Nat.mul_mod, z, Nat.zero_mul, Nat.zero_mod] at a
  omega
-- c is a generator modulo p
theorem dm_log {p c u : Nat} (hp : 2 < p) (h : dm_O p c (p - 1)) (h1 : 0 < u) (hu : u < p) :
    ∃ i, i < p - 1 ∧ c ^ i % p = u := by
  obtain ⟨i, a, b⟩ := dm_surj (p - 1) (fun i => c ^ i % p - 1)
    (fun i hi => by
      have := dm_nz h (Nat.le_of_lt hi)
      have := Nat.mod_lt (c ^ i) (show 0 < p by omega)
      show c ^ i % p - 1 < p - 1
      omega)
    (fun i j hi hj e => dm_inj h hi hj (by
      have := dm_nz h (Nat.le_of_lt hi)
      have := dm_nz h (Nat.le_of_lt hj)
      have e' : c ^ i % p - 1 = c ^ j % p - 1 := e
      omega)) (u - 1) (by omega)
  have b' : c ^ i % p - 1 = u - 1 := b
  have := dm_nz h (Nat.le_of_lt a)
  exact ⟨i, a, by omega⟩
theorem dm_fermat {p c u : Nat} (hp : 2 < p) (h : dm_O p c (p - 1)) (h1 : 0 < u) (hu : u < p) : u ^ (p - 1) % p = 1 := by
  obtain ⟨i, _, e⟩ := dm_log hp h h1 hu
  rw [← e, dm_pp]
  exact (h.2 _).mpr (Nat.dvd_mul_left _ _)
theorem dm_unit_O {p c u : Nat} (hp : 2 < p) (h : dm_O p c (p - 1)) (h1 : 0 < u) (hu : u < p) :
    dm_O p u (dm_ord p u) ∧ dm_ord p u ∣ p - 1 := by
  have f := dm_fermat hp h h1 hu
  obtain ⟨o, ho⟩ := dm_O_ex (by omega) (by omega) f
  rw [dm_ord_eq ho]
  exact ⟨ho, (ho.2 _).mp f⟩
theorem dm_dv' {g i n x : Nat} (hg : 0 < g) (hc : Nat.Coprime i n) : g * n ∣ g * i * x ↔ n ∣ x := by
  rw [Nat.mul_assoc, Nat.mul_dvd_mul_iff_left hg]
  exact ⟨fun h => Nat.Coprime.dvd_of_dvd_mul_left hc.symm h, fun h => Nat.dvd_mul_left_of_dvd h i⟩
theorem dm_dv {n i x : Nat} (hn : 0 < n) : n ∣ i * x ↔ n / Nat.gcd i n ∣ x := by
  have hg : 0 < Nat.gcd i n := Nat.gcd_pos_of_pos_right i hn
  have h := dm_dv' (x := x) hg (Nat.coprime_div_gcd_div_gcd hg)
  rw [Nat.mul_div_cancel' (Nat.gcd_dvd_left i n), Nat.mul_div_cancel' (Nat.gcd_dvd_right i n)] at h
  exact h
theorem dm_O_pow {p c n : Nat} (h : dm_O p c n) (i : Nat) : dm_O p (c ^ i % p) (n / Nat.gcd i n) :=
  ⟨Nat.div_pos (Nat.gcd_le_right i h.1) (Nat.gcd_pos_of_pos_right i h.1), fun x => by
    rw [dm_pp, h.2, dm_dv h.1]⟩
theorem dm_ord_pow {p c n : Nat} (h : dm_O p c n) (i : Nat) : dm_ord p (c ^ i % p) = n / Nat.gcd i n :=
  dm_ord_eq (dm_O_pow h i)
-- how many units have order d
theorem dm_ordcount {p c d e : Nat} (hp : 2 < p) (h : dm_O p c (p - 1)) (hd : p - 1 = d * e) :
    dm_cnt (fun i => dm_ord p (i + 1) == d) (p - 1) = dm_cnt (fun j => Nat.gcd j d == 1) d := by
  have hde : 0 < d * e := by omega
  have he : 0 < e := Nat.pos_of_mul_pos_left hde
  have hd0 : 0 < d := Nat.pos_of_mul_pos_right hde
  have h0 := dm_bij (p - 1) (fun i => c ^ i % p - 1) (fun i => dm_ord p (i + 1) == d)
    (fun i hi => by
      have := dm_nz h (Nat.le_of_lt hi)
      have := Nat.mod_lt (c ^ i) (show 0 < p by omega)
      show c ^ i % p - 1 < p - 1
      omega)
    (fun i j hi hj e => dm_inj h hi hj (by
      have := dm_nz h (Nat.le_of_lt hi)
      have := dm_nz h (Nat.le_of_lt hj)
      have e' : c ^ i % p - 1 = c ^ j % p - 1 := e
      omega))
  have h1 : dm_cnt (fun i => (fun i => dm_ord p (i + 1) == d) ((fun i => c ^ i % p - 1) i)) (p - 1) = dm_cnt (fun i => Nat.gcd i (d * e) == e) (p - 1) :=
    dm_cnt_congr (p - 1) (fun i hi => by
      have z := dm_nz h (Nat.le_of_lt hi)
      show (dm_ord p (c ^ i % p - 1 + 1) == d) = (Nat.gcd i (d * e) == e)
      rw [Nat.sub_add_cancel (by omega), dm_ord_pow h, hd]
      have hg : Nat.gcd i (d * e) * (d * e / Nat.gcd i (d * e)) = d * e := Nat.mul_div_cancel' (Nat.gcd_dvd_right i _)
      have hgp : 0 < Nat.gcd i (d * e) := Nat.gcd_pos_of_pos_right i hde
      rw [Bool.eq_iff_iff, beq_iff_eq, beq_iff_eq]
      constructor
      · intro q
        rw [q] at hg
        exact Nat.eq_of_mul_eq_mul_right hd0 (hg.trans (Nat.mul_comm d e))
      · intro q
        rw [q]
        exact Nat.mul_div_cancel d he)
  have h2 := dm_mult (fun i => Nat.gcd i (d * e) == e) e he (fun i q => by
    have q' : Nat.gcd i (d * e) = e := by simpa using q
    have q2 := Nat.gcd_dvd_left i (d * e)
    rw [q'] at q2
    exact q2) d
  rw [hd] at h0 h1 ⊢
  refine h0.trans (h1.trans (h2.trans ?_))
  refine dm_cnt_congr d (fun j _ => ?_)
  show (Nat.gcd (e * j) (d * e) == e) = (Nat.gcd j d == 1)
  rw [Nat.mul_comm d e, Nat.gcd_mul_left, Bool.eq_iff_iff, beq_iff_eq, beq_iff_eq]
  constructor
  · intro q
    exact Nat.eq_of_mul_eq_mul_left he (q.trans (Nat.mul_one e).symm)
  · intro q
    rw [q, Nat.mul_one]
theorem dm_ordcount0 {p c d : Nat} (hp : 2 < p) (h : dm_O p c (p - 1)) (hd : ¬ d ∣ p - 1) :
    dm_cnt (fun i => dm_ord p (i + 1) == d) (p - 1) = 0 :=
  dm_cnt_none _ (fun i hi z => by
    have z' : dm_ord p (i + 1) = d := by simpa using z
    exact hd (z' ▸ (dm_unit_O hp h (by omega) (by omega)).2))
-- the powers of g are the units u with u to the order of g = 1
theorem dm_bez {a n : Nat} (hn : 0 < n) (hc : Nat.Coprime a n) : ∃ y, a * y % n = 1 % n := by
  obtain ⟨y, _, e⟩ := dm_surj n (fun y => a * y % n) (fun y _ => Nat.mod_lt _ hn)
    (fun i j hi hj e => by
      have key : ∀ i j, i ≤ j → j < n → a * i % n = a * j % n → i = j := fun i j hij hj e => by
        have h1 : n ∣ a * j - a * i := Nat.dvd_of_mod_eq_zero (Nat.sub_mod_eq_zero_of_mod_eq e.symm)
        rw [← Nat.mul_sub] at h1
        have h2 := Nat.Coprime.dvd_of_dvd_mul_left hc.symm h1
        have := Nat.eq_zero_of_dvd_of_lt h2 (by omega)
        omega
      by_cases hij : i ≤ j
      · exact key i j hij hj e
      · exact (key j i (by omega) hi e.symm).symm) (1 % n) (Nat.mod_lt _ hn)
  exact ⟨y, e⟩
theorem dm_bezg {a n : Nat} (hn : 0 < n) : ∃ y, a * y % n = Nat.gcd a n % n := by
  have hg : 0 < Nat.gcd a n := Nat.gcd_pos_of_pos_right a hn
  have hc := Nat.coprime_div_gcd_div_gcd hg
  have hd : 0 < n / Nat.gcd a n := Nat.div_pos (Nat.gcd_le_right a hn) hg
  obtain ⟨y, e⟩ := dm_bez hd hc
  refine ⟨y, ?_⟩
  have e2 : Nat.gcd a n * (a / Nat.gcd a n * y % (n / Nat.gcd a n)) = Nat.gcd a n * (1 % (n / Nat.gcd a n)) := by rw [e]
  rw [← Nat.mul_mod_mul_left, ← Nat.mul_mod_mul_left, ← Nat.mul_assoc, Nat.mul_div_cancel' (Nat.gcd_dvd_left a n),
    Nat.mul_div_cancel' (Nat.gcd_dvd_right a n), Nat.mul_one] at e2
  exact e2
theorem dm_cyc {p c g u og : Nat} (hp : 2 < p) (h : dm_O p c (p - 1)) (g1 : 0 < g) (gp : g < p) (u1 : 0 < u) (up : u < p)
    (ho : dm_O p g og) : (∃ y, y < p - 1 ∧ g ^ y % p = u) ↔ u ^ og % p = 1 := by
  constructor
  · intro ⟨y, _, e⟩
    rw [← e, dm_pp]
    exact (ho.2 _).mpr (Nat.dvd_mul_left _ _)
  · intro e
    obtain ⟨i, hi, ei⟩ := dm_log hp h u1 up
    obtain ⟨a, ha, ea⟩ := dm_log hp h g1 gp
    have hn : 0 < p - 1 := by omega
    have eo : og = (p - 1) / Nat.gcd a (p - 1) := by
      rw [← ea] at ho
      exact dm_O_uniq ho (dm_O_pow h a)
    have en : Nat.gcd a (p - 1) * og = p - 1 := by rw [eo]; exact Nat.mul_div_cancel' (Nat.gcd_dvd_right a _)
    rw [← ei, dm_pp] at e
    have h1 : p - 1 ∣ i * og := (h.2 _).mp e
    rw [← en] at h1
    have h2 : Nat.gcd a (p - 1) ∣ i := Nat.dvd_of_mul_dvd_mul_right ho.1 h1
    obtain ⟨k, ek⟩ := h2
    obtain ⟨y, ey⟩ := dm_bezg (a := a) hn
    have h3 : g ^ (y * k) % p = u := by
      rw [← ea, dm_pp, dm_per h, ← ei, dm_per h i]
      congr 2
      rw [← Nat.mul_assoc, Nat.mul_mod, ey, ← Nat.mul_mod, ← ek]
    have f : dm_O p g og := ho
    have hg := dm_fermat hp h g1 gp
    have h4 : (og ∣ p - 1) := (ho.2 _).mp hg
    refine ⟨(y * k) % og, Nat.lt_of_lt_of_le (Nat.mod_lt _ ho.1) (Nat.le_of_dvd hn h4), ?_⟩
    rw [← dm_per ho]
    exact h3
-- common: a count of x below the order of h
theorem dm_blocks (o k : Nat) (ho : 0 < o) : dm_cnt (fun x => dm_d (o ∣ x + 1)) (k * o) = k := by
  induction k with
  | zero => rw [Nat.zero_mul]; rfl
  | succ k ih =>
    rw [Nat.add_mul, Nat.one_mul, dm_cnt_add, ih]
    have h1 : dm_cnt (fun t => dm_d (o ∣ k * o + t + 1)) o = 1 := by
      obtain ⟨q, rfl⟩ : ∃ q, o = q + 1 := ⟨o - 1, by omega⟩
      have t : dm_d (q + 1 ∣ k * (q + 1) + q + 1) = true := dm_d_iff.mpr
        ⟨k + 1, by rw [Nat.add_assoc, Nat.mul_comm k (q + 1), Nat.mul_add (q + 1) k 1, Nat.mul_one]⟩
      rw [dm_cnt_t (P := fun t => dm_d (q + 1 ∣ k * (q + 1) + t + 1)) t, dm_cnt_none (P := fun t => dm_d (q + 1 ∣ k * (q + 1) + t + 1)) q (fun i hi z => by
        have z' : q + 1 ∣ k * (q + 1) + i + 1 := dm_d_iff.mp z
        rw [Nat.add_assoc] at z'
        have z2 := (Nat.dvd_add_right (Nat.dvd_mul_left (q + 1) k)).mp z'
        have := Nat.le_of_dvd (by omega) z2
        omega)]
    exact congrArg (k + ·) h1
theorem dm_common {p c g h og oh : Nat} (hp : 2 < p) (G : dm_O p c (p - 1)) (g1 : 0 < g) (gp : g < p) (h1 : 0 < h) (hp' : h < p)
    (hg : dm_O p g og) (hh : dm_O p h oh) :
    dm_cnt (fun x => dm_d (∃ y, y < p - 1 ∧ g ^ y % p = h ^ (x + 1) % p)) oh = Nat.gcd og oh := by
  have hk : 0 < Nat.gcd og oh := Nat.gcd_pos_of_pos_right og hh.1
  have e1 : dm_cnt (fun x => dm_d (∃ y, y < p - 1 ∧ g ^ y % p = h ^ (x + 1) % p)) oh = dm_cnt (fun x => dm_d (oh / Nat.gcd og oh ∣ x + 1)) oh :=
    dm_cnt_congr oh (fun x hx => dm_d_congr (by
      rw [dm_cyc hp G g1 gp (Nat.pos_of_ne_zero (dm_nz hh (by omega))) (Nat.mod_lt _ (by omega)) hg, dm_pp, hh.2, Nat.mul_comm, dm_dv hh.1]))
  have e2 : oh = Nat.gcd og oh * (oh / Nat.gcd og oh) := (Nat.mul_div_cancel' (Nat.gcd_dvd_right og oh)).symm
  rw [e1]
  have e3 := dm_blocks (oh / Nat.gcd og oh) (Nat.gcd og oh) (Nat.div_pos (Nat.gcd_le_right og hh.1) hk)
  rw [← e2] at e3
  exact e3
-- the inverse
theorem dm_inv {p g y z : Nat} (hy : y < p) (hz : z < p) (ey : g * y % p = 1) (ez : g * z % p = 1) : y = z := by
  have a : y * (g * z) % p = y := by rw [Nat.mul_mod, ez, Nat.mul_one, Nat.mod_mod, Nat.mod_eq_of_lt hy]
  have b : y * (g * z) % p = z := by
    rw [← Nat.mul_assoc, Nat.mul_comm y g, Nat.mul_mod, ey, Nat.one_mul, Nat.mod_mod, Nat.mod_eq_of_lt hz]
  exact a.symm.trans b
theorem dm_invp {p c g : Nat} (hp : 2 < p) (h : dm_O p c (p - 1)) (h1 : 0 < g) (hg : g < p) : g * (g ^ (p - 2) % p) % p = 1 := by
  rw [Nat.mul_mod_mod, ← Nat.pow_add_one', show p - 2 + 1 = p - 1 by omega]
  exact dm_fermat hp h h1 hg
