-- Y: the reference's methods against the same pictures
theorem dy_pl {post : Int32 → Prop} {n : Nat} {f : Int32} {a : Nat → Int32} (hn : n < 2 ^ 30) (h3 : 3 ≤ n) (h1 : dm_P n → post 1) (h0 : ¬ dm_P n → post 0) :
    ∀ m d : Nat, 2 ≤ d → d ≤ n + 2 → n ≤ d + m → (∀ e, 2 ≤ e → e < d → n % e ≠ 0) → wY_isPrime_2 post (nI n) f a (m + 1) (nI d) := by
  have h3' : ¬ nI n < 3 := nI_nlt (b := 3) h3 (by omega)
  intro m
  induction m with
  | zero =>
    intro d h2 hb hm hi
    exact br_t (nI_le (by omega) (by omega)) (br_f h3' (h1 (fun e a b => hi e a (by omega))))
  | succ m ih =>
    intro d h2 hb hm hi
    refine pk_le n d (fun h => br_f h3' (h1 (fun e a b => hi e a (by omega)))) (fun h => ?_)
    refine ⟨nI_ne0 (by omega) (by omega), ?_⟩
    refine pk_eq (n % d) 0 (fun z => h0 (fun w => w d h2 h z)) (fun z => ?_) (pk_rem (by omega) (by omega) (by omega)) rfl (by have := Nat.mod_lt n (show 0 < d by omega); omega)
    refine nm_r (nI_1 d) ?_
    refine ih (d + 1) (by omega) (by omega) (by omega) (fun e a b => ?_)
    by_cases w : e = d
    · rw [w]; exact z
    · exact hi e a (by omega)
theorem dy_p {post : Int32 → Prop} {n : Nat} {f : Int32} {a : Nat → Int32} (hn : n < 2 ^ 30) (h3 : 3 ≤ n) (h1 : dm_P n → post 1) (h0 : ¬ dm_P n → post 0) :
    wpY_isPrime post (f, a) (nI n) :=
  ⟨n + 1, dy_pl hn h3 h1 h0 n 2 (by omega) (by omega) (by omega) (fun e a b => by omega)⟩
theorem dy_u1 {post : Int32 → Prop} {p g : Nat} {a : Nat → Int32} (hp : p ≤ 2039) (g0 : 0 < g) (gp : g < p) (h : post 1) : wpY_isUnit post (nI p, a) (nI g) :=
  pk_lt g 1 (fun z => absurd z (by omega)) (fun _ => pk_le p g (fun z => absurd z (by omega)) (fun _ => h))
theorem dy_u0 {post : Int32 → Prop} {p : Nat} {a : Nat → Int32} {v : Int32} (hv : v < 1 ∨ (¬ v < 1 ∧ nI p ≤ v)) (h : post 0) : wpY_isUnit post (nI p, a) v := by
  rcases hv with z | ⟨z, w⟩
  · exact br_t z h
  · exact br_f z (br_t w h)
theorem dy_ol {post : Int32 → Prop} {p g o : Nat} {a : Nat → Int32} (hp3 : 2 < p) (hp : p ≤ 2039) (hg : g < p) (ho : dm_O p g o) (hl : o ≤ p - 1) (h : post (nI o)) :
    ∀ m x, 0 < x → x + m = o → wY_orderOf_4 post (nI g) (nI p) a (m + 1) (nI x) (nI (g ^ x % p)) := by
  intro m
  induction m with
  | zero =>
    intro x h0 hx
    have e : x = o := by omega
    rw [e, dm_O_one ho]
    exact br_f (nI_ge (by omega) (by omega)) (br_t rfl h)
  | succ m ih =>
    intro x h0 hx
    have n1 : g ^ x % p ≠ 1 := dm_O_not ho h0 (by omega)
    have hv : g ^ x % p < p := Nat.mod_lt _ (by omega)
    refine br_f (nI_ge (by omega) (by omega)) ?_
    refine br_f (fun z => n1 ((nI_eq (b := 1) (by omega) (by omega)).mp z)) ⟨nI_ne0 (by omega) (by omega), ?_⟩
    refine nm_r (e' := nI (g ^ (x + 1) % p)) ?_ (nm_r (nI_1 x) (ih (x + 1) (by omega) (by omega)))
    rw [dw_tm (by omega) hp hv hg, dm_ps]
theorem dy_o {post : Int32 → Prop} {p g : Nat} {a : Nat → Int32} (H : dw_M p) (g0 : 0 < g) (gp : g < p) (h : post (nI (dm_ord p g))) :
    wpY_orderOf post (nI p, a) (nI g) := by
  have o := dw_O H g0 gp
  have e := dy_ol (a := a) H.1 H.2.1 gp o.1 (dw_Ole H g0 gp) h (dm_ord p g - 1) 1 (by omega) (by have := o.1.1; omega)
  rw [dw_self gp] at e
  exact ⟨_, e⟩
theorem dy_rl {post : Int32 → Prop} {p g x : Nat} {a : Nat → Int32} (hp3 : 2 < p) (hp : p ≤ 2039) (hg : g < p) (hx : x < 2 ^ 31) (h : post (nI (g ^ x % p))) :
    ∀ k, k ≤ 20 → wY_raised_6 post (nI g) (nI x) (nI p) a (k + 1) (nI (g ^ (x / 2 ^ k) % p)) (nI k + (-1)) := by
  intro k
  induction k with
  | zero =>
    intro _
    refine br_t (by decide) ?_
    rw [Nat.pow_zero, Nat.div_one]
    exact h
  | succ k ih =>
    intro hk
    rw [pk_m1]
    have hv : g ^ (x / 2 ^ (k + 1)) % p < p := Nat.mod_lt _ (by omega)
    have hw : g ^ (x / 2 ^ (k + 1)) % p * (g ^ (x / 2 ^ (k + 1)) % p) % p < p := Nat.mod_lt _ (by omega)
    have p0 : ¬ nI p = 0 := nI_ne0 (by omega) (by omega)
    refine br_f (nI_pos (by omega)) ⟨p0, nm_r (dw_tm (by omega) hp hv hv) ?_⟩
    refine pk_eq (x / 2 ^ k % 2) 1 (fun z => ⟨p0, nm_r (dw_tm (by omega) hp hw hg) ?_⟩) (fun z => ?_) (dw_bit hx (by omega)) rfl (by omega)
    · rw [dw_r1 z]
      exact nm_e (ih (by omega))
    · have z0 : x / 2 ^ k % 2 = 0 := by omega
      rw [dw_r0 z0]
      exact nm_e (ih (by omega))
theorem dy_r {post : Int32 → Prop} {p g x : Nat} {a : Nat → Int32} (hp3 : 2 < p) (hp : p ≤ 2039) (hg : g < p) (hx : x < 2 ^ 20) (h : post (nI (g ^ x % p))) :
    wpY_raised post (nI p, a) (nI g) (nI x) := by
  have e := dy_rl (a := a) hp3 hp hg (by omega) h 20 (by omega)
  rw [Nat.div_eq_of_lt hx, dw_zero hp3, pk_m1] at e
  exact ⟨21, e⟩
theorem dy_ll {post : Int32 → Prop} {p d e : Nat} {a : Nat → Int32} (H : dw_M p) (hd : d < 2 ^ 31) (he : e ≤ p)
    (hn : ∀ i, 1 ≤ i → i < e → ¬ dm_ord p i = d) (ht : e < p → dm_ord p e = d) (h : post (dw_an e p (nI e) (-4))) :
    ∀ m u, 0 < u → u + m = e → wY_unitOfOrder_9 post (nI d) (nI p) a (m + 1) (nI u) := by
  have hp3 := H.1
  have hp := H.2.1
  intro m
  induction m with
  | zero =>
    intro u h0 hu
    have eu : u = e := by omega
    refine pk_le p u (fun z => dw_an_f (P := post) (by omega) h) (fun z => ?_)
    refine dy_o H h0 z ?_
    have e1 : dm_ord p u = d := by rw [eu]; exact ht (by omega)
    rw [e1]
    refine br_t rfl ?_
    rw [eu]
    exact dw_an_t (P := post) (by omega) h
  | succ m ih =>
    intro u h0 hu
    have nx := ih (u + 1) (by omega) (by omega)
    have ol := dw_Ole H h0 (show u < p by omega)
    refine br_f (nI_ge (by omega) (by omega)) ?_
    refine dy_o H h0 (by omega) ?_
    refine br_f (fun w => hn u (by omega) (by omega) ((nI_eq (by omega) (by omega)).mp w)) ?_
    exact nm_r (nI_1 u) nx
theorem dy_cl {post : Int32 → Prop} {p d : Nat} {a : Nat → Int32} (H : dw_M p) (hd : d < 2 ^ 31)
    (h : post (nI (dm_cnt (fun i => dm_ord p (i + 1) == d) (p - 1)))) :
    ∀ m i, i + m = p - 1 → wY_unitsOfOrder_11 post (nI d) (nI p) a (m + 1) (nI (dm_cnt (fun i => dm_ord p (i + 1) == d) i)) (nI (i + 1)) := by
  have hp3 := H.1
  have hp := H.2.1
  intro m
  induction m with
  | zero =>
    intro i hi
    have ei : i = p - 1 := by omega
    rw [ei]
    exact br_t (nI_le (by omega) (by omega)) h
  | succ m ih =>
    intro i hi
    have nx := ih (i + 1) (by omega)
    have ol := dw_Ole H (show 0 < i + 1 by omega) (show i + 1 < p by omega)
    refine br_f (nI_ge (by omega) (by omega)) ?_
    refine dy_o H (by omega) (by omega) ?_
    refine pk_eq (dm_ord p (i + 1)) d (fun z => ?_) (fun z => ?_)
    · rw [dm_cnt_t (P := fun i => dm_ord p (i + 1) == d) (by simpa using z)] at nx
      exact nm_r (nI_1 _) (nm_r (nI_1 _) nx)
    · rw [dm_cnt_f (P := fun i => dm_ord p (i + 1) == d) (by simpa using z)] at nx
      exact nm_r (nI_1 _) nx
theorem dy_il {post : Int32 → Prop} {p g : Nat} {a : Nat → Int32} (H : dw_M p) (g0 : 0 < g) (gp : g < p)
    (h : post (nI (g ^ (p - 2) % p))) :
    ∀ m y, 0 < y → y + m = p → wY_inverse_14 post (nI g) (nI p) a (m + 1) (dw_an (g ^ (p - 2) % p) y (nI (g ^ (p - 2) % p)) 0) (nI y) := by
  have hp3 := H.1
  have hp := H.2.1
  have hi : g ^ (p - 2) % p < p := Nat.mod_lt _ (by omega)
  intro m
  induction m with
  | zero =>
    intro y h0 hy
    refine br_t (nI_le (by omega) (by omega)) ?_
    unfold dw_an
    rw [if_pos (by omega)]
    exact h
  | succ m ih =>
    intro y h0 hy
    have nx := ih (y + 1) (by omega) (by omega)
    refine br_f (nI_ge (by omega) (by omega)) ⟨nI_ne0 (by omega) (by omega), ?_⟩
    have yp : y < p := by omega
    have iv := dw_inv H g0 gp yp
    refine pk_eq (g * y % p) 1 (fun z => ?_) (fun z => ?_) (dw_tm (by omega) hp gp yp) rfl (by have := Nat.mod_lt (g * y) (show 0 < p by omega); omega)
    · have e := iv.mp z
      unfold dw_an at nx
      rw [if_pos (by omega), ← e] at nx
      exact nm_r (nI_1 y) nx
    · have e : ¬ y = g ^ (p - 2) % p := fun w => z (iv.mpr w)
      have e2 : dw_an (g ^ (p - 2) % p) (y + 1) (nI (g ^ (p - 2) % p)) 0 = dw_an (g ^ (p - 2) % p) y (nI (g ^ (p - 2) % p)) 0 := by
        unfold dw_an
        by_cases w : g ^ (p - 2) % p < y
        · rw [if_pos w, if_pos (by omega)]
        · rw [if_neg w, if_neg (by omega)]
      rw [e2] at nx
      exact nm_r (nI_1 y) nx
theorem dy_el {post : Int32 → Prop} {p g h e : Nat} {a : Nat → Int32} (hp3 : 2 < p) (hp : p ≤ 2039) (hg : g < p) (hh : h < p) (he : e ≤ p - 1)
    (hn : ∀ i, i < e → ¬ g ^ i % p = h) (ht : e < p - 1 → g ^ e % p = h)
    (k : post (dw_an e (p - 1) (nI e) (-4))) :
    ∀ n i, i + n = e → wY_log_23 post (nI g) (nI h) (nI p) a (n + 1) (nI (g ^ i % p)) (nI i) := by
  intro n
  induction n with
  | zero =>
    intro i hi
    have ei : i = e := by omega
    refine pk_le (p - 1) i (fun z => dw_an_f (P := post) (by omega) k) (fun z => ?_) (dw_p1 (by omega))
    rw [ei, ht (by omega)]
    exact br_t rfl (dw_an_t (P := post) (by omega) k)
  | succ n ih =>
    intro i hi
    have hv : g ^ i % p < p := Nat.mod_lt _ (by omega)
    refine pk_le (p - 1) i (fun z => absurd z (by omega)) (fun z => ?_) (dw_p1 (by omega))
    refine br_f (fun w => hn i (by omega) ((nI_eq (by omega) (by omega)).mp w)) ⟨nI_ne0 (by omega) (by omega), ?_⟩
    refine nm_r (e' := nI (g ^ (i + 1) % p)) ?_ (nm_r (nI_1 i) (ih (i + 1) (by omega)))
    rw [dw_tm (by omega) hp hv hg, dm_ps]
theorem dy_tl {post : Int32 → Prop} {p h k e : Nat} {a : Nat → Int32} (hp3 : 2 < p) (hp : p ≤ 2039) (hh : h < p) (hk : k < 2 ^ 20) (he : e ≤ p)
    (hn : ∀ i, 1 ≤ i → i < e → ¬ i ^ k % p = h) (ht : e < p → e ^ k % p = h) (H : post (dw_an e p (nI e) (-4))) :
    ∀ m u, 0 < u → u + m = e → wY_root_20 post (nI h) (nI k) (nI p) a (m + 1) (nI u) := by
  intro m
  induction m with
  | zero =>
    intro u h0 hu
    have eu : u = e := by omega
    refine pk_le p u (fun z => dw_an_f (P := post) (by omega) H) (fun z => ?_)
    refine dy_r hp3 hp z hk ?_
    rw [eu, ht (by omega)]
    exact br_t rfl (dw_an_t (P := post) (by omega) H)
  | succ m ih =>
    intro u h0 hu
    have hv : u ^ k % p < p := Nat.mod_lt _ (by omega)
    refine br_f (nI_ge (by omega) (by omega)) ?_
    refine dy_r hp3 hp (by omega) hk ?_
    refine br_f (fun w => hn u (by omega) (by omega) ((nI_eq (by omega) (by omega)).mp w)) ?_
    exact nm_r (nI_1 u) (ih (u + 1) (by omega) (by omega))
theorem dy_sl {post : Int32 → Prop} {p h k : Nat} {a : Nat → Int32} (hp3 : 2 < p) (hp : p ≤ 2039) (hh : h < p) (hk : k < 2 ^ 20)
    (H : post (nI (dm_cnt (fun i => (i + 1) ^ k % p == h) (p - 1)))) :
    ∀ m i, i + m = p - 1 → wY_roots_23 post (nI h) (nI k) (nI p) a (m + 1) (nI (dm_cnt (fun i => (i + 1) ^ k % p == h) i)) (nI (i + 1)) := by
  intro m
  induction m with
  | zero =>
    intro i hi
    have ei : i = p - 1 := by omega
    rw [ei]
    exact br_t (nI_le (by omega) (by omega)) H
  | succ m ih =>
    intro i hi
    have nx := ih (i + 1) (by omega)
    have hv : (i + 1) ^ k % p < p := Nat.mod_lt _ (by omega)
    refine br_f (nI_ge (by omega) (by omega)) ?_
    refine dy_r hp3 hp (by omega) hk ?_
    refine pk_eq ((i + 1) ^ k % p) h (fun z => ?_) (fun z => ?_)
    · rw [dm_cnt_t (P := fun i => (i + 1) ^ k % p == h) (by simpa using z)] at nx
      exact nm_r (nI_1 _) (nm_r (nI_1 _) nx)
    · rw [dm_cnt_f (P := fun i => (i + 1) ^ k % p == h) (by simpa using z)] at nx
      exact nm_r (nI_1 _) nx
theorem dy_nl {post : Int32 → SY → Prop} {p e : Nat} {a : Nat → Int32} (hp3 : 2 < p) (hp : p ≤ 2039) (he : e ≤ 2040) (hn : ∀ i, p + 1 ≤ i → i < e → ¬ dm_P i) (ht : e < 2040 → dm_P e)
    (h1 : e < 2040 → post (nI e) (nI e, a)) (h0 : ¬ e < 2040 → post (-4) (nI p, a)) :
    ∀ m n, p + 1 ≤ n → n + m = e → wY_nextPrime_7 post (nI p) a (m + 1) (nI n) := by
  intro m
  induction m with
  | zero =>
    intro n hl hm
    have en : n = e := by omega
    refine pk_lt 2039 n (fun z => h0 (by omega)) (fun z => ?_)
    refine dy_p (by omega) (by omega) (fun hq => br_f (by decide) ?_) (fun hq => absurd (ht (by omega)) (en ▸ hq))
    rw [en]
    exact h1 (by omega)
  | succ m ih =>
    intro n hl hm
    refine pk_lt 2039 n (fun z => absurd z (by omega)) (fun z => ?_)
    exact dy_p (by omega) (by omega) (fun hq => absurd hq (hn n hl (by omega))) (fun hq => br_t rfl (nm_r (nI_1 n) (ih (n + 1) (by omega) (by omega))))
theorem dy_wl {post : Int32 → Prop} {p g h r m X : Nat} {a : Nat → Int32} (hp3 : 2 < p) (hp : p ≤ 2039) (hg : g < p) (hh : h < p) (m0 : 0 < m) (m6 : m ≤ 60) (hr : r < m)
    (hX : X ≤ (p - 1) * m) (hn : ∀ x, x < X → ¬ (g ^ x % p = h ∧ x % m = r)) (ht : X < (p - 1) * m → g ^ X % p = h ∧ X % m = r)
    (k : post (dw_an X ((p - 1) * m) (nI X) (-4))) :
    ∀ n x, x + n = X → wY_logWith_47 post (nI g) (nI h) (nI r) (nI m) (nI p) a (n + 1) (nI (g ^ x % p)) (nI x) := by
  have hb : (p - 1) * m ≤ 2038 * 60 := Nat.mul_le_mul (by omega) m6
  have eb : (nI p - 1) * nI m = nI ((p - 1) * m) := by rw [dw_p1 (by omega), pk_mul]
  have m1 : ¬ nI m = 0 := nI_ne0 m0 (by omega)
  have p1 : ¬ nI p = 0 := nI_ne0 (by omega) (by omega)
  generalize hB : (p - 1) * m = B at hb eb hX ht k
  intro n
  induction n with
  | zero =>
    intro x hx
    have ex : x = X := by omega
    refine pk_le B x (fun z => dw_an_f (P := post) (by omega) k) (fun z => ?_) eb
    have t := ht (by omega)
    rw [ex, t.1]
    refine br_t rfl ⟨m1, ?_⟩
    rw [pk_rem (by omega) m0 (by omega), t.2]
    exact br_t rfl (dw_an_t (P := post) (by omega) k)
  | succ n ih =>
    intro x hx
    have hv : g ^ x % p < p := Nat.mod_lt _ (by omega)
    have hm : x % m < m := Nat.mod_lt _ m0
    have nx : wY_logWith_79 post (wY_logWith_47 post (nI g) (nI h) (nI r) (nI m) (nI p) a (n + 1)) (nI g) (nI h) (nI r) (nI m) (nI (g ^ x % p)) (nI x) (nI p) a := by
      refine ⟨p1, nm_r (e' := nI (g ^ (x + 1) % p)) ?_ (nm_r (nI_1 x) (ih (x + 1) (by omega)))⟩
      rw [dw_tm (by omega) hp hv hg, dm_ps]
    refine pk_le B x (fun z => absurd z (by omega)) (fun z => ?_) eb
    refine pk_eq (g ^ x % p) h (fun w => ⟨m1, ?_⟩) (fun w => nx)
    refine pk_eq (x % m) r (fun y => absurd ⟨w, y⟩ (hn x (by omega))) (fun y => nx) (pk_rem (by omega) m0 (by omega))
