-- X: searches and counts
theorem dx_ll {post : Int32 → Prop} {p d e : Nat} (H : dw_M p) (hd : d < p) (he : e ≤ p)
    (hn : ∀ i, 1 ≤ i → i < e → ¬ dm_ord p i = d) (ht : e < p → dm_ord p e = d) (h : post (dw_an e p (nI e) (-4))) :
    ∀ m u, 0 < u → u + m = e → wX_leastOfOrder_13 post (nI d) (nI p) (m + 1) (nI u) := by
  have hp3 := H.1
  have hp := H.2.1
  intro m
  induction m with
  | zero =>
    intro u h0 hu
    have eu : u = e := by omega
    refine pk_le p u (fun z => dw_an_f (P := post) (by omega) h) (fun z => ?_)
    refine dx_r hp3 hp z (by omega) ?_
    have ho := (dw_O H h0 z).1
    have e1 : dm_ord p u = d := by rw [eu]; exact ht (by omega)
    rw [e1] at ho
    rw [dm_O_one ho]
    refine br_t rfl ?_
    refine dx_o H h0 z ?_
    rw [e1]
    refine br_t rfl ?_
    rw [eu]
    exact dw_an_t (P := post) (by omega) h
  | succ m ih =>
    intro u h0 hu
    have nx := ih (u + 1) (by omega) (by omega)
    refine br_f (nI_ge (by omega) (by omega)) ?_
    refine dx_r hp3 hp (show u < p by omega) (by omega) ?_
    have hv : u ^ d % p < p := Nat.mod_lt _ (by omega)
    have ol := dw_Ole H h0 (show u < p by omega)
    refine pk_eq (u ^ d % p) 1 (fun z => ?_) (fun z => ?_)
    · refine dx_o H h0 (by omega) ?_
      refine br_f (fun w => hn u (by omega) (by omega) ((nI_eq (by omega) (by omega)).mp w)) ?_
      exact nm_r (nI_1 u) nx
    · exact nm_r (nI_1 u) nx
theorem dx_cl {post : Int32 → Prop} {p d : Nat} (hd : d < 2 ^ 16) (h : ∀ count, dm_I d (d + 1) count → post (nI count)) :
    ∀ m q count, 2 ≤ q → q + m = d + 1 → count ≤ d → dm_I d q count → wX_countOfOrder_14 post (nI d) (nI p) (m + 1) (nI count) (nI q) := by
  intro m
  induction m with
  | zero =>
    intro q count h2 hq hc hI
    have e : q = d + 1 := by omega
    rw [e] at hI ⊢
    exact br_t (nI_lt (by omega) (by omega)) (h count hI)
  | succ m ih =>
    intro q count h2 hq hc hI
    have q0 : ¬ nI q = 0 := nI_ne0 (by omega) (by omega)
    have hm : d % q < q := Nat.mod_lt _ (by omega)
    have hb : count / q * (q - 1) ≤ count := Nat.le_trans (Nat.mul_le_mul_left _ (by omega)) (Nat.div_mul_le_self count q)
    refine br_f (nI_nlt (by omega) (by omega)) ⟨q0, ?_⟩
    refine pk_eq (d % q) 0 (fun z => ?_) (fun z => ?_) (pk_rem (by omega) (by omega) (by omega)) rfl
    · refine dx_p (by omega) (fun hp => ?_) (fun hp => ?_)
      · refine br_f (by decide) ⟨q0, ?_⟩
        refine nm_r (e' := nI (count / q * (q - 1))) ?_ ?_
        · rw [pk_div (by omega) (by omega) (by omega), dw_p1 (by omega), pk_mul]
        · exact nm_r (nI_1 q) (ih (q + 1) _ (by omega) (by omega) (by omega) (dm_I2 hI h2 hp (Nat.dvd_of_mod_eq_zero z)))
      · exact br_t rfl (nm_r (nI_1 q) (ih (q + 1) _ (by omega) (by omega) hc (dm_I1 hI (fun w => hp w.1))))
    · exact nm_r (nI_1 q) (ih (q + 1) _ (by omega) (by omega) hc (dm_I1 hI (fun w => z (Nat.mod_eq_zero_of_dvd w.2))))
theorem dx_el {post : Int32 → Prop} {p g h r m e : Nat} (hp3 : 2 < p) (hp : p ≤ 2039) (hh : h < p) (he : e ≤ p - 1)
    (hn : ∀ i, i < e → ¬ g ^ (r + i * m) % p = h) (ht : e < p - 1 → g ^ (r + e * m) % p = h)
    (k : post (dw_an e (p - 1) (nI (r + e * m)) (-4))) :
    ∀ n i, i + n = e → wX_leastExponent_20 post (nI h) (nI r) (nI m) (nI (g ^ m % p)) (nI p) (n + 1) (nI (g ^ (r + i * m) % p)) (nI i) := by
  intro n
  induction n with
  | zero =>
    intro i hi
    have ei : i = e := by omega
    refine pk_le (p - 1) i (fun z => dw_an_f (P := post) (by omega) k) (fun z => ?_) (dw_p1 (by omega))
    rw [ei, ht (by omega)]
    refine br_t rfl ?_
    rw [pk_mul, nI_add]
    exact dw_an_t (P := post) (by omega) k
  | succ n ih =>
    intro i hi
    have hv : ∀ x, g ^ x % p < p := fun x => Nat.mod_lt _ (by omega)
    have hv1 := hv (r + i * m)
    refine pk_le (p - 1) i (fun z => absurd z (by omega)) (fun z => ?_) (dw_p1 (by omega))
    refine br_f (fun w => hn i (by omega) ((nI_eq (by omega) (by omega)).mp w)) ?_
    refine dx_t (by omega) hp hv1 (hv m) ?_
    rw [dw_step]
    exact nm_r (nI_1 i) (ih (i + 1) (by omega))
theorem dx_a1 {post : Int32 → Prop} {p d : Nat} (hp3 : 2 < p) (hp : p ≤ 2039) (d0 : 0 < d) (hd : d < 2 ^ 31) (h : d ∣ p - 1) (k : post 1) :
    wpX_isAnOrder post (nI p) (nI d) := by
  refine ⟨nI_ne0 d0 hd, ?_⟩
  rw [dw_p1 (by omega), pk_rem (by omega) d0 hd, Nat.mod_eq_zero_of_dvd h]
  exact br_t rfl k
theorem dx_a0 {post : Int32 → Prop} {p d : Nat} (hp3 : 2 < p) (hp : p ≤ 2039) (d0 : 0 < d) (hd : d < 2 ^ 31) (h : ¬ d ∣ p - 1) (k : post 0) :
    wpX_isAnOrder post (nI p) (nI d) := by
  refine ⟨nI_ne0 d0 hd, ?_⟩
  rw [dw_p1 (by omega), pk_rem (by omega) d0 hd]
  have hb : (p - 1) % d ≤ p - 1 := Nat.mod_le _ _
  exact br_f (nI_ne0 (Nat.pos_of_ne_zero (fun z => h (Nat.dvd_of_mod_eq_zero z))) (by omega)) k
theorem dx_l {post : Int32 → Prop} {p d e : Nat} (H : dw_M p) (d0 : 0 < d) (hd : d < 2 ^ 31) (he : e ≤ p) (e0 : 1 ≤ e)
    (hn : ∀ i, 1 ≤ i → i < e → ¬ dm_ord p i = d) (ht : e < p → dm_ord p e = d) (h : post (dw_an e p (nI e) (-4))) :
    wpX_leastOfOrder post (nI p) (nI d) := by
  have hp3 := H.1
  have hp := H.2.1
  by_cases hv : d ∣ p - 1
  · have hl := Nat.le_of_dvd (by omega) hv
    exact dx_a1 hp3 hp d0 hd hv (br_f (by decide) ⟨_, dx_ll H (by omega) he hn ht h (e - 1) 1 (by omega) (by omega)⟩)
  · refine dx_a0 hp3 hp d0 hd hv (br_t rfl ?_)
    exact dw_an_f (P := post) (fun z => dw_none H hv (by omega) z (ht z)) h
theorem dx_c {post : Int32 → Prop} {p d : Nat} (H : dw_M p) (d0 : 0 < d) (hd : d < 2 ^ 31)
    (h : post (nI (dm_cnt (fun i => dm_ord p (i + 1) == d) (p - 1)))) : wpX_countOfOrder post (nI p) (nI d) := by
  have hp3 := H.1
  have hp := H.2.1
  by_cases hv : d ∣ p - 1
  · have hl := Nat.le_of_dvd (by omega) hv
    refine dx_a1 hp3 hp d0 hd hv (br_f (by decide) ⟨_, dx_cl (by omega) (fun count hI => ?_) (d - 1) 2 d (by omega) (by omega) (Nat.le_refl d) (dm_I0 d)⟩)
    rw [← dw_phi H hv hI]
    exact h
  · rw [dw_phi0 H hv] at h
    exact dx_a0 hp3 hp d0 hd hv (br_t rfl h)
theorem dx_e {post : Int32 → Prop} {p g h r m e : Nat} (hp3 : 2 < p) (hp : p ≤ 2039) (hg : g < p) (hh : h < p) (hr : r ≤ 60) (hm : m ≤ 60) (he : e ≤ p - 1)
    (hn : ∀ i, i < e → ¬ g ^ (r + i * m) % p = h) (ht : e < p - 1 → g ^ (r + e * m) % p = h)
    (k : post (dw_an e (p - 1) (nI (r + e * m)) (-4))) : wpX_leastExponent post (nI p) (nI g) (nI h) (nI r) (nI m) := by
  refine dx_r hp3 hp hg (by omega) ?_
  refine dx_r hp3 hp hg (by omega) ?_
  have z := dx_el hp3 hp hh he hn ht k e 0 (by omega)
  rw [Nat.zero_mul, Nat.add_zero] at z
  exact ⟨_, z⟩
theorem dx_tl {post : Int32 → Prop} {p h k e : Nat} (hp3 : 2 < p) (hp : p ≤ 2039) (hh : h < p) (hk : k < 2 ^ 20) (he : e ≤ p)
    (hn : ∀ i, 1 ≤ i → i < e → ¬ i ^ k % p = h) (ht : e < p → e ^ k % p = h) (H : post (dw_an e p (nI e) (-4))) :
    ∀ m u, 0 < u → u + m = e → wX_root_13 post (nI h) (nI k) (nI p) (m + 1) (nI u) := by
  intro m
  induction m with
  | zero =>
    intro u h0 hu
    have eu : u = e := by omega
    refine pk_le p u (fun z => dw_an_f (P := post) (by omega) H) (fun z => ?_)
    refine dx_r hp3 hp z hk ?_
    rw [eu, ht (by omega)]
    exact br_t rfl (dw_an_t (P := post) (by omega) H)
  | succ m ih =>
    intro u h0 hu
    have hv : u ^ k % p < p := Nat.mod_lt _ (by omega)
    refine br_f (nI_ge (by omega) (by omega)) ?_
    refine dx_r hp3 hp (by omega) hk ?_
    refine br_f (fun w => hn u (by omega) (by omega) ((nI_eq (by omega) (by omega)).mp w)) ?_
    exact nm_r (nI_1 u) (ih (u + 1) (by omega) (by omega))
theorem dx_sl {post : Int32 → Prop} {p h k : Nat} (hp3 : 2 < p) (hp : p ≤ 2039) (hh : h < p) (hk : k < 2 ^ 20)
    (H : post (nI (dm_cnt (fun i => (i + 1) ^ k % p == h) (p - 1)))) :
    ∀ m i, i + m = p - 1 → wX_roots_16 post (nI h) (nI k) (nI p) (m + 1) (nI (dm_cnt (fun i => (i + 1) ^ k % p == h) i)) (nI (i + 1)) := by
  intro m
  induction m with
  | zero =>
    intro i hi
    have ei : i = p - 1 := by omega
    rw [ei]
    exact br_t (nI_le (by omega) (by omega)) H
  | succ m ih =>
    intro i hi
    have nx := ih (i + 1) (by omega)
    have hv : (i + 1) ^ k % p < p := Nat.mod_lt _ (by omega)
    refine br_f (nI_ge (by omega) (by omega)) ?_
    refine dx_r hp3 hp (by omega) hk ?_
    refine pk_eq ((i + 1) ^ k % p) h (fun z => ?_) (fun z => ?_)
    · rw [dm_cnt_t (P := fun i => (i + 1) ^ k % p == h) (by simpa using z)] at nx
      exact nm_r (nI_1 _) (nm_r (nI_1 _) nx)
    · rw [dm_cnt_f (P := fun i => (i + 1) ^ k % p == h) (by simpa using z)] at nx
      exact nm_r (nI_1 _) nx
theorem dx_nl {post : Int32 → SX → Prop} {p e : Nat} (hp : p ≤ 2039) (he : e ≤ 2040) (hn : ∀ i, p + 1 ≤ i → i < e → ¬ dm_P i) (ht : e < 2040 → dm_P e)
    (h1 : e < 2040 → post (nI e) (nI e)) (h0 : ¬ e < 2040 → post (-4) (nI p)) :
    ∀ m n, p + 1 ≤ n → n + m = e → wX_nextPrime_7 post (nI p) (m + 1) (nI n) := by
  intro m
  induction m with
  | zero =>
    intro n hl hm
    have en : n = e := by omega
    refine pk_lt 2039 n (fun z => h0 (by omega)) (fun z => ?_)
    refine dx_p (by omega) (fun hq => br_f (by decide) ?_) (fun hq => absurd (ht (by omega)) (en ▸ hq))
    rw [en]
    exact h1 (by omega)
  | succ m ih =>
    intro n hl hm
    refine pk_lt 2039 n (fun z => absurd z (by omega)) (fun z => ?_)
    exact dx_p (by omega) (fun hq => absurd hq (hn n hl (by omega))) (fun hq => br_t rfl (nm_r (nI_1 n) (ih (n + 1) (by omega) (by omega))))
