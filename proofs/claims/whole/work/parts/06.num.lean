-- numbers, powers, the modulus
theorem dw_b {p a b : Nat} (hp : p ≤ 2039) (ha : a < p) (hb : b < p) : a * b < 2 ^ 31 :=
  Nat.lt_of_le_of_lt (Nat.mul_le_mul (show a ≤ 2039 by omega) (show b ≤ 2039 by omega)) (by decide)
theorem dw_tm {p a b : Nat} (h0 : 0 < p) (hp : p ≤ 2039) (ha : a < p) (hb : b < p) :
    nI a * nI b - nI a * nI b / nI p * nI p = nI (a * b % p) := by
  rw [pk_mul, pk_rem (dw_b hp ha hb) h0 (by omega)]
theorem dw_bit {x k : Nat} (hx : x < 2 ^ 31) (hk : k < 32) : (nI x >>> (nI k &&& 31)) &&& 1 = nI (x / 2 ^ k % 2) := by
  rw [pk_shrN hx _ k (s_l k hk)]
  have h : x / 2 ^ k ≤ x := Nat.div_le_self _ _
  exact pk_andN (by omega) 1 (by decide)
theorem dw_half {x k : Nat} : x / 2 ^ (k + 1) = x / 2 ^ k / 2 := by
  rw [Nat.pow_succ, Nat.div_div_eq_div_mul]
theorem dw_r0 {p g x k : Nat} (h : x / 2 ^ k % 2 = 0) :
    g ^ (x / 2 ^ (k + 1)) % p * (g ^ (x / 2 ^ (k + 1)) % p) % p = g ^ (x / 2 ^ k) % p := by
  rw [← Nat.mul_mod, ← Nat.pow_add, dw_half]
  generalize x / 2 ^ k = z at h ⊢
  rw [show z / 2 + z / 2 = z by omega]
theorem dw_r1 {p g x k : Nat} (h : x / 2 ^ k % 2 = 1) :
    g ^ (x / 2 ^ (k + 1)) % p * (g ^ (x / 2 ^ (k + 1)) % p) % p * g % p = g ^ (x / 2 ^ k) % p := by
  rw [← Nat.mul_mod, ← Nat.pow_add, dm_ps, dw_half]
  generalize x / 2 ^ k = z at h ⊢
  rw [show z / 2 + z / 2 + 1 = z by omega]
theorem dw_p1 {p : Nat} (h : 1 ≤ p) : nI p - 1 = nI (p - 1) := pk_sub (a := p) (b := 1) h
theorem dw_p2 {p : Nat} (h : 2 ≤ p) : nI p - 2 = nI (p - 2) := pk_sub (a := p) (b := 2) h
def dw_M (p : Nat) : Prop := 2 < p ∧ p ≤ 2039 ∧ dm_P p
theorem dw_O {p u : Nat} (H : dw_M p) (h1 : 0 < u) (hu : u < p) : dm_O p u (dm_ord p u) ∧ dm_ord p u ∣ p - 1 := by
  obtain ⟨c, hc⟩ := dm_has H.1 H.2.1 H.2.2
  exact dm_unit_O H.1 hc h1 hu
theorem dw_Ole {p u : Nat} (H : dw_M p) (h1 : 0 < u) (hu : u < p) : dm_ord p u ≤ p - 1 :=
  Nat.le_of_dvd (by have := H.1; omega) (dw_O H h1 hu).2
theorem dw_self {p g : Nat} (hg : g < p) : g ^ 1 % p = g := by rw [Nat.pow_one, Nat.mod_eq_of_lt hg]
theorem dw_zero {p g : Nat} (hp : 2 < p) : g ^ 0 % p = 1 := by rw [Nat.pow_zero, Nat.mod_eq_of_lt (by omega)]
theorem dw_phi {p d count : Nat} (H : dw_M p) (hd : d ∣ p - 1) (hI : dm_I d (d + 1) count) :
    dm_cnt (fun i => dm_ord p (i + 1) == d) (p - 1) = count := by
  obtain ⟨c, hc⟩ := dm_has H.1 H.2.1 H.2.2
  obtain ⟨e, he⟩ := hd
  have h3 := H.1
  have d0 : 0 < d := Nat.pos_of_ne_zero (fun z => by rw [z, Nat.zero_mul] at he; omega)
  rw [dm_ordcount H.1 hc he]
  exact (dm_Ie d0 hI).symm
theorem dw_phi0 {p d : Nat} (H : dw_M p) (hd : ¬ d ∣ p - 1) : dm_cnt (fun i => dm_ord p (i + 1) == d) (p - 1) = 0 := by
  obtain ⟨c, hc⟩ := dm_has H.1 H.2.1 H.2.2
  exact dm_ordcount0 H.1 hc hd
theorem dw_none {p d : Nat} (H : dw_M p) (hd : ¬ d ∣ p - 1) {u : Nat} (h1 : 0 < u) (hu : u < p) : dm_ord p u ≠ d :=
  fun z => hd (z ▸ (dw_O H h1 hu).2)
theorem dw_common {p g h : Nat} (H : dw_M p) (g1 : 0 < g) (gp : g < p) (h1 : 0 < h) (hp : h < p) :
    dm_cnt (fun x => dm_d (∃ y, y < p - 1 ∧ g ^ y % p = h ^ (x + 1) % p)) (dm_ord p h) = Nat.gcd (dm_ord p g) (dm_ord p h) := by
  obtain ⟨c, hc⟩ := dm_has H.1 H.2.1 H.2.2
  exact dm_common H.1 hc g1 gp h1 hp (dw_O H g1 gp).1 (dw_O H h1 hp).1
theorem dw_inv {p g : Nat} (H : dw_M p) (g1 : 0 < g) (gp : g < p) {y : Nat} (hy : y < p) :
    g * y % p = 1 ↔ y = g ^ (p - 2) % p := by
  obtain ⟨c, hc⟩ := dm_has H.1 H.2.1 H.2.2
  have e := dm_invp H.1 hc g1 gp
  have h3 := H.1
  exact ⟨fun z => dm_inv hy (Nat.mod_lt _ (by omega)) z e, fun z => z ▸ e⟩
theorem dw_inv0 {p g : Nat} (H : dw_M p) (g1 : 0 < g) (gp : g < p) : 0 < g ^ (p - 2) % p := by
  have h3 := H.1
  refine Nat.pos_of_ne_zero (fun z => ?_)
  have e := (dw_inv H g1 gp (Nat.mod_lt (g ^ (p - 2)) (show 0 < p by omega))).mpr rfl
  rw [z, Nat.mul_zero, Nat.zero_mod] at e
  omega
theorem dw_end (P : Nat → Prop) (a b : Nat) (h : a ≤ b) :
    ∃ e, a ≤ e ∧ e ≤ b ∧ (∀ i, a ≤ i → i < e → ¬ P i) ∧ (e < b → P e) := by
  obtain ⟨e, h1, h2⟩ := pk_least (fun i => a ≤ i ∧ (P i ∨ b ≤ i)) ⟨b, h, Or.inr (Nat.le_refl b)⟩
  refine ⟨e, h1.1, ?_, fun i hi hie hp => h2 i hie ⟨hi, Or.inl hp⟩, fun hb => ?_⟩
  · by_cases z : e ≤ b
    · exact z
    · exact absurd ⟨h, Or.inr (Nat.le_refl b)⟩ (h2 b (by omega))
  · rcases h1.2 with z | z
    · exact z
    · omega
def dw_an (e b : Nat) (v w : Int32) : Int32 := if e < b then v else w
theorem dw_an_t {P : Int32 → Prop} {e b : Nat} {v w : Int32} (h : e < b) (k : P (dw_an e b v w)) : P v := by
  unfold dw_an at k
  rwa [if_pos h] at k
theorem dw_an_f {P : Int32 → Prop} {e b : Nat} {v w : Int32} (h : ¬ e < b) (k : P (dw_an e b v w)) : P w := by
  unfold dw_an at k
  rwa [if_neg h] at k
theorem dw_unit (v : Int32) {p : Nat} (hp3 : 2 < p) (hp : p ≤ 2039) : (∃ g, 0 < g ∧ g < p ∧ v = nI g) ∨ v < 1 ∨ (¬ v < 1 ∧ nI p ≤ v) := by
  by_cases h : v < 1
  · exact Or.inr (Or.inl h)
  · rcases pk_ix v (n := p) (by omega) with z | z | ⟨j, hj, e⟩
    · exact absurd (Int32.lt_trans z (by decide)) h
    · exact Or.inr (Or.inr ⟨h, z⟩)
    · refine Or.inl ⟨j, Nat.pos_of_ne_zero (fun w => h ?_), hj, e⟩
      rw [e, w]
      decide
def dw_K (p g x : Nat) (a : Nat → Int32) : Prop := ∀ u, u < p → (¬ a u = 0 ↔ ∃ y, y < x ∧ g ^ y % p = u)
theorem dw_K0 {p g : Nat} {a : Nat → Int32} (h : ∀ u, u < p → a u = 0) : dw_K p g 0 a :=
  fun u hu => ⟨fun z => absurd (h u hu) z, fun ⟨y, hy, _⟩ => absurd hy (Nat.not_lt_zero y)⟩
theorem dw_K1 {p g x : Nat} {a : Nat → Int32} (h : dw_K p g x a) {v : Int32} (hv : ¬ v = 0) : dw_K p g (x + 1) (upd a (g ^ x % p) v) := by
  intro u hu
  by_cases e : u = g ^ x % p
  · rw [e, pk_us]
    exact ⟨fun _ => ⟨x, by omega, rfl⟩, fun _ => hv⟩
  · rw [pk_un e, h u hu]
    constructor
    · intro ⟨y, hy, e2⟩
      exact ⟨y, by omega, e2⟩
    · intro ⟨y, hy, e2⟩
      by_cases z : y = x
      · rw [z] at e2
        exact absurd e2.symm e
      · exact ⟨y, by omega, e2⟩
def dw_Z (u : Nat) (a : Nat → Int32) : Prop := ∀ i, i < u → a i = 0
theorem dw_Z1 {u : Nat} {a : Nat → Int32} (h : dw_Z u a) {v : Int32} (hv : v = 0) : dw_Z (u + 1) (upd a u v) := by
  intro i hi
  by_cases e : i = u
  · rw [e, pk_us]; exact hv
  · rw [pk_un e]; exact h i (by omega)
theorem dw_bo0 : vp_nar .boolean 0 = 0 := by decide
theorem dw_bo1 : ¬ vp_nar .boolean 1 = 0 := by decide
-- logarithms with a step
theorem dw_step {p g r m i : Nat} : g ^ (r + i * m) % p * (g ^ m % p) % p = g ^ (r + (i + 1) * m) % p := by
  rw [← Nat.mul_mod, ← Nat.pow_add, Nat.add_mul, Nat.one_mul, Nat.add_assoc]
theorem dw_lw {p m r e x : Nat} (hm : 0 < m) (hr : r < m) (P : Nat → Prop)
    (hn : ∀ i, i < e → ¬ P (r + i * m)) (hx : x < r + e * m ∨ (e = p - 1 ∧ x < (p - 1) * m)) : ¬ (P x ∧ x % m = r) := by
  intro ⟨h1, h2⟩
  have h3 : r + x / m * m = x := by
    have := Nat.div_add_mod x m
    rw [Nat.mul_comm m, h2] at this
    omega
  refine hn (x / m) ?_ (by rw [h3]; exact h1)
  rcases hx with h | ⟨h4, h⟩
  · exact Nat.lt_of_mul_lt_mul_right (a := m) (by omega)
  · rw [h4]
    exact Nat.div_lt_of_lt_mul (by rw [Nat.mul_comm]; exact h)
theorem dw_lwe {m r e : Nat} (hr : r < m) : (r + e * m) % m = r := by
  rw [Nat.add_mul_mod_self_right, Nat.mod_eq_of_lt hr]
theorem dw_lwb {p m r e : Nat} (hr : r < m) (he : e < p - 1) : r + e * m < (p - 1) * m := by
  have := Nat.mul_le_mul_right m (show e + 1 ≤ p - 1 by omega)
  rw [Nat.add_mul, Nat.one_mul] at this
  omega
