-- X: the class's own methods against their pictures
theorem dx_pl {post : Int32 → Prop} {n : Nat} (hn : n < 2 ^ 30) (h1 : dm_P n → post 1) (h0 : ¬ dm_P n → post 0) :
    ∀ m d : Nat, 2 ≤ d → d ≤ n + 2 → n ≤ d + m → (∀ e, 2 ≤ e → e < d → n % e ≠ 0) → wX_isPrime_2 post (nI n) (m + 1) (nI d) := by
  intro m
  induction m with
  | zero =>
    intro d h2 hb hm hi
    exact br_t (nI_le (by omega) (by omega)) (h1 (fun e a b => hi e a (by omega)))
  | succ m ih =>
    intro d h2 hb hm hi
    refine pk_le n d (fun h => h1 (fun e a b => hi e a (by omega))) (fun h => ?_)
    refine ⟨nI_ne0 (by omega) (by omega), ?_⟩
    refine pk_eq (n % d) 0 (fun z => h0 (fun w => w d h2 h z)) (fun z => ?_) (pk_rem (by omega) (by omega) (by omega)) rfl (by have := Nat.mod_lt n (show 0 < d by omega); omega)
    refine nm_r (nI_1 d) ?_
    refine ih (d + 1) (by omega) (by omega) (by omega) (fun e a b => ?_)
    by_cases w : e = d
    · rw [w]; exact z
    · exact hi e a (by omega)
theorem dx_p {post : Int32 → Prop} {n : Nat} (hn : n < 2 ^ 30) (h1 : dm_P n → post 1) (h0 : ¬ dm_P n → post 0) : wpX_isPrime post (nI n) :=
  ⟨n + 1, dx_pl hn h1 h0 n 2 (by omega) (by omega) (by omega) (fun e a b => by omega)⟩
theorem dx_u1 {post : Int32 → Prop} {p g : Nat} (hp : p ≤ 2039) (g0 : 0 < g) (gp : g < p) (h : post 1) : wpX_isUnit post (nI p) (nI g) :=
  pk_lt g 1 (fun z => absurd z (by omega)) (fun _ => pk_le p g (fun z => absurd z (by omega)) (fun _ => h))
theorem dx_u0 {post : Int32 → Prop} {p : Nat} {v : Int32} (hv : v < 1 ∨ (¬ v < 1 ∧ nI p ≤ v)) (h : post 0) : wpX_isUnit post (nI p) v := by
  rcases hv with z | ⟨z, w⟩
  · exact br_t z h
  · exact br_f z (br_t w h)
theorem dx_t {post : Int32 → Prop} {p a b : Nat} (h0 : 0 < p) (hp : p ≤ 2039) (ha : a < p) (hb : b < p) (h : post (nI (a * b % p))) :
    wpX_times post (nI p) (nI a) (nI b) := by
  refine ⟨nI_ne0 h0 (by omega), ?_⟩
  rw [dw_tm h0 hp ha hb]
  exact h
theorem dx_rl {post : Int32 → Prop} {p g x : Nat} (hp3 : 2 < p) (hp : p ≤ 2039) (hg : g < p) (hx : x < 2 ^ 31) (h : post (nI (g ^ x % p))) :
    ∀ k, k ≤ 20 → wX_raise_6 post (nI g) (nI x) (nI p) (k + 1) (nI (g ^ (x / 2 ^ k) % p)) (nI k + (-1)) := by
  intro k
  induction k with
  | zero =>
    intro _
    refine br_t (by decide) ?_
    rw [Nat.pow_zero, Nat.div_one]
    exact h
  | succ k ih =>
    intro hk
    rw [pk_m1]
    have hv : g ^ (x / 2 ^ (k + 1)) % p < p := Nat.mod_lt _ (by omega)
    refine br_f (nI_pos (by omega)) ?_
    refine dx_t (by omega) hp hv hv ?_
    refine pk_eq (x / 2 ^ k % 2) 1 (fun z => ?_) (fun z => ?_) (dw_bit hx (by omega)) rfl (by omega)
    · refine dx_t (by omega) hp (Nat.mod_lt _ (by omega)) hg ?_
      rw [dw_r1 z]
      exact nm_e (ih (by omega))
    · have z0 : x / 2 ^ k % 2 = 0 := by omega
      rw [dw_r0 z0]
      exact nm_e (ih (by omega))
theorem dx_r {post : Int32 → Prop} {p g x : Nat} (hp3 : 2 < p) (hp : p ≤ 2039) (hg : g < p) (hx : x < 2 ^ 20) (h : post (nI (g ^ x % p))) :
    wpX_raise post (nI p) (nI g) (nI x) := by
  have e := dx_rl hp3 hp hg (by omega) h 20 (by omega)
  rw [Nat.div_eq_of_lt hx, dw_zero hp3, pk_m1] at e
  exact ⟨21, e⟩
theorem dx_ol {post : Int32 → Prop} {p g o : Nat} (hp3 : 2 < p) (hp : p ≤ 2039) (hg : g < p) (ho : dm_O p g o) (hl : o ≤ p - 1) (h : post (nI o)) :
    ∀ m x, 0 < x → x + m = o → wX_orderOfUnit_4 post (nI g) (nI p) (m + 1) (nI (g ^ x % p)) (nI x) := by
  intro m
  induction m with
  | zero =>
    intro x h0 hx
    have e : x = o := by omega
    rw [e, dm_O_one ho]
    exact br_t rfl h
  | succ m ih =>
    intro x h0 hx
    have n1 : g ^ x % p ≠ 1 := dm_O_not ho h0 (by omega)
    have hv : g ^ x % p < p := Nat.mod_lt _ (by omega)
    refine br_f (fun z => n1 ((nI_eq (b := 1) (by omega) (by omega)).mp z)) ?_
    refine pk_le (p - 1) x (fun z => absurd z (by omega)) (fun _ => ?_) (dw_p1 (by omega))
    refine dx_t (by omega) hp hv hg ?_
    rw [dm_ps]
    exact nm_r (nI_1 x) (ih (x + 1) (by omega) (by omega))
theorem dx_o {post : Int32 → Prop} {p g : Nat} (H : dw_M p) (g0 : 0 < g) (gp : g < p) (h : post (nI (dm_ord p g))) :
    wpX_orderOfUnit post (nI p) (nI g) := by
  have o := dw_O H g0 gp
  have e := dx_ol H.1 H.2.1 gp o.1 (dw_Ole H g0 gp) h (dm_ord p g - 1) 1 (by omega) (by have := o.1.1; omega)
  rw [dw_self gp] at e
  exact ⟨_, e⟩
theorem dx_gl {post : Int32 → Prop} {a b : Nat} (ha : a < 2 ^ 30) (hb : b < 2 ^ 30) (a0 : 0 < a) (h : post (nI (Nat.gcd a b))) :
    ∀ d, Nat.gcd a b ≤ d → d ≤ a → wX_greatestCommonDivisor_2 post (nI a) (nI b) (d + 1) (nI d) := by
  have hg : 0 < Nat.gcd a b := Nat.gcd_pos_of_pos_left b a0
  intro d
  induction d with
  | zero =>
    intro h1 _
    omega
  | succ d ih =>
    intro h1 h2
    have nx : ¬ Nat.gcd a b = d + 1 → wX_greatestCommonDivisor_2 post (nI a) (nI b) (d + 1) (nI d) := fun z => ih (by omega) (by omega)
    have hm : ∀ c, c % (d + 1) < d + 1 := fun c => Nat.mod_lt c (by omega)
    refine pk_le (d + 1) 1 (fun z => ?_) (fun z => ⟨nI_ne0 (by omega) (by omega), ?_⟩)
    · have e : Nat.gcd a b = 1 := by omega
      rw [e] at h
      exact h
    · refine pk_eq (a % (d + 1)) 0 (fun w => ⟨nI_ne0 (by omega) (by omega), ?_⟩) (fun w => ?_) (pk_rem (by omega) (by omega) (by omega)) rfl (by have := hm a; omega)
      · refine pk_eq (b % (d + 1)) 0 (fun y => ?_) (fun y => ?_) (pk_rem (by omega) (by omega) (by omega)) rfl (by have := hm b; omega)
        · have e := Nat.le_of_dvd hg (Nat.dvd_gcd (Nat.dvd_of_mod_eq_zero w) (Nat.dvd_of_mod_eq_zero y))
          have e2 : Nat.gcd a b = d + 1 := by omega
          rw [e2] at h
          exact h
        · exact nm_r (pk_m1 d) (nx (fun e => y (Nat.mod_eq_zero_of_dvd (e ▸ Nat.gcd_dvd_right a b))))
      · exact nm_r (pk_m1 d) (nx (fun e => w (Nat.mod_eq_zero_of_dvd (e ▸ Nat.gcd_dvd_left a b))))
theorem dx_g {post : Int32 → Prop} {a b : Nat} (ha : a < 2 ^ 30) (hb : b < 2 ^ 30) (a0 : 0 < a) (h : post (nI (Nat.gcd a b))) :
    wpX_greatestCommonDivisor post (nI a) (nI b) :=
  ⟨_, dx_gl ha hb a0 h a (Nat.gcd_le_left b a0) (Nat.le_refl a)⟩
