-- the relation and the owed statements
theorem dv_x {A B : Prop} {p g : Nat} (hp : p ≤ 2039) (g0 : 0 < g) (gp : g < p) (b : B) :
    wpX_isUnit (fun r => (r = 0 → A) ∧ (¬ r = 0 → B)) (nI p) (nI g) := dx_u1 hp g0 gp (br_f (by decide) b)
theorem dv_y {A B : Prop} {p g : Nat} {a : Nat → Int32} (hp : p ≤ 2039) (g0 : 0 < g) (gp : g < p) (b : B) :
    wpY_isUnit (fun r => (r = 0 → A) ∧ (¬ r = 0 → B)) (nI p, a) (nI g) := dy_u1 hp g0 gp (br_f (by decide) b)
theorem dv_x0 {A B : Prop} {p : Nat} {v : Int32} (hv : v < 1 ∨ (¬ v < 1 ∧ nI p ≤ v)) (b : A) :
    wpX_isUnit (fun r => (r = 0 → A) ∧ (¬ r = 0 → B)) (nI p) v := dx_u0 hv (br_t rfl b)
theorem dv_y0 {A B : Prop} {p : Nat} {v : Int32} {a : Nat → Int32} (hv : v < 1 ∨ (¬ v < 1 ∧ nI p ≤ v)) (b : A) :
    wpY_isUnit (fun r => (r = 0 → A) ∧ (¬ r = 0 → B)) (nI p, a) v := dy_u0 hv (br_t rfl b)
theorem dv_1 : ¬ (1 : Int32) = 0 := by decide
theorem dv_n0 {v w : Int32} (h : ¬ v < w) (hw : (0 : Int32) < w) : ¬ v < 0 := fun z => h (Int32.lt_trans z hw)
theorem dv_ge {n b : Nat} (hb : b < 2 ^ 31) (h : ¬ nI n < nI b) : b ≤ n := by
  rcases Nat.lt_or_ge n b with z | z
  · exact absurd (nI_lt z hb) h
  · exact z
theorem dv_1le {v : Int32} (h : 1 ≤ v) : ∃ d, 0 < d ∧ d < 2 ^ 31 ∧ v = nI d := by
  have z : ¬ v < 0 := fun w => Int32.lt_irrefl (Int32.lt_of_lt_of_le (Int32.lt_of_lt_of_le w (show (0 : Int32) ≤ 1 by decide)) h)
  obtain ⟨d, hd, rfl⟩ := nI_of z
  exact ⟨d, (nI_leI (a := 1) (by decide) hd).mp h, hd, rfl⟩
def i_Rel (_ : Nat) (u : SX) (v : SY) : Prop := ∃ p a, dw_M p ∧ u = nI p ∧ v = (nI p, a)
theorem i_up {k : Nat} {u : SX} {v : SY} (h : i_Rel k u v) : i_Rel (k + 5) u v := h
theorem i_vc0 : wpX_init (fun u => wpY_init (fun v => i_Rel 0 u v)) := by
  show i_Rel 0 (3 : Int32) ((3 : Int32), fun _ => 0)
  exact ⟨3, fun _ => 0, ⟨by decide, by decide, fun d a b => by
    have e : d = 2 := by omega
    rw [e]
    decide⟩, rfl, rfl⟩
theorem i_vc_prime {k : Nat} {u : SX} {v : SY} (I : i_Rel k u v) (hk : k + 5 ≤ 2560) (v1 : Int32) : wpX_prime (fun r u' => wpY_prime (fun r' v' => r' = r ∧ i_Rel (k + 5) u' v') v v1) u v1 := by
  obtain ⟨p, a, H, rfl, rfl⟩ := I
  have R : i_Rel (k + 5) (nI p) (nI p, a) := ⟨p, a, H, rfl, rfl⟩
  unfold wpX_prime wpY_prime
  dsimp only
  by_cases h3 : v1 < 3
  · exact br_t h3 (br_t h3 ⟨rfl, R⟩)
  · by_cases h9 : 2039 < v1
    · exact br_f h3 (br_t h9 (br_f h3 (br_t h9 ⟨rfl, R⟩)))
    · obtain ⟨n, hn, rfl⟩ := nI_of2 (n := 2039) (M := 2039) (by decide) (dv_n0 h3 (by decide)) (Int32.not_lt.mp h9)
      have n3 : 3 ≤ n := dv_ge (by decide) h3
      refine br_f h3 (br_f h9 (dx_p (by omega) (fun q => br_f dv_1 ?_) (fun q => br_t rfl ?_)))
      · exact br_f h3 (br_f h9 (dy_p (by omega) n3 (fun _ => br_f dv_1 ⟨rfl, n, a, ⟨by omega, hn, q⟩, rfl, rfl⟩) (fun z => absurd q z)))
      · exact br_f h3 (br_f h9 (dy_p (by omega) n3 (fun z => absurd z q) (fun _ => br_t rfl ⟨rfl, R⟩)))
theorem i_vc_modulus {k : Nat} {u : SX} {v : SY} (I : i_Rel k u v) (hk : k + 5 ≤ 2560) : wpX_modulus (fun r => wpY_modulus (fun r' => r' = r ∧ i_Rel (k + 5) u v) v) u := by
  obtain ⟨p, a, H, rfl, rfl⟩ := I
  unfold wpX_modulus wpY_modulus
  dsimp only
  exact ⟨rfl, p, a, H, rfl, rfl⟩
theorem i_vc_nextPrime {k : Nat} {u : SX} {v : SY} (I : i_Rel k u v) (hk : k + 5 ≤ 2560) : wpX_nextPrime (fun r u' => wpY_nextPrime (fun r' v' => r' = r ∧ i_Rel (k + 5) u' v') v) u := by
  obtain ⟨p, a, H, rfl, rfl⟩ := I
  have R : i_Rel (k + 5) (nI p) (nI p, a) := ⟨p, a, H, rfl, rfl⟩
  have h3 := H.1
  have h9 := H.2.1
  unfold wpX_nextPrime wpY_nextPrime
  dsimp only
  obtain ⟨e, e1, he, hn, ht⟩ := dw_end dm_P (p + 1) 2040 (by omega)
  refine nm_r (nI_1 p) ⟨_, dx_nl h9 he hn ht (fun z => ?_) (fun z => ?_) (e - (p + 1)) (p + 1) (by omega) (by omega)⟩
  · exact nm_r (nI_1 p) ⟨_, dy_nl h3 h9 he hn ht (fun _ => ⟨rfl, e, a, ⟨by omega, by omega, ht z⟩, rfl, rfl⟩) (fun w => absurd z w) (e - (p + 1)) (p + 1) (by omega) (by omega)⟩
  · exact nm_r (nI_1 p) ⟨_, dy_nl h3 h9 he hn ht (fun w => absurd w z) (fun _ => ⟨rfl, R⟩) (e - (p + 1)) (p + 1) (by omega) (by omega)⟩
theorem i_vc_power {k : Nat} {u : SX} {v : SY} (I : i_Rel k u v) (hk : k + 5 ≤ 2560) (v1 : Int32) (v2 : Int32) : wpX_power (fun r => wpY_power (fun r' => r' = r ∧ i_Rel (k + 5) u v) v v1 v2) u v1 v2 := by
  obtain ⟨p, a, H, rfl, rfl⟩ := I
  have R : i_Rel (k + 5) (nI p) (nI p, a) := ⟨p, a, H, rfl, rfl⟩
  unfold wpX_power wpY_power
  dsimp only
  rcases dw_unit v1 H.1 H.2.1 with ⟨g, g0, gp, rfl⟩ | z
  · by_cases h0 : v2 < 0
    · exact dv_x H.2.1 g0 gp (br_t h0 (dv_y H.2.1 g0 gp (br_t h0 ⟨rfl, R⟩)))
    · by_cases h1 : v2 ≤ 1000000
      · obtain ⟨x, hx, rfl⟩ := nI_of2 (n := 1000000) (M := 1000000) (by decide) h0 h1
        exact dv_x H.2.1 g0 gp (br_f h0 (br_t h1 (dx_r H.1 H.2.1 gp (by omega) (dv_y H.2.1 g0 gp (br_f h0 (br_t h1 (dy_r H.1 H.2.1 gp (by omega) ⟨rfl, R⟩)))))))
      · exact dv_x H.2.1 g0 gp (br_f h0 (br_f h1 (dv_y H.2.1 g0 gp (br_f h0 (br_f h1 ⟨rfl, R⟩)))))
  · exact dv_x0 z (dv_y0 z ⟨rfl, R⟩)
theorem i_vc_inverse {k : Nat} {u : SX} {v : SY} (I : i_Rel k u v) (hk : k + 5 ≤ 2560) (v1 : Int32) : wpX_inverse (fun r => wpY_inverse (fun r' => r' = r ∧ i_Rel (k + 5) u v) v v1) u v1 := by
  obtain ⟨p, a, H, rfl, rfl⟩ := I
  have R : i_Rel (k + 5) (nI p) (nI p, a) := ⟨p, a, H, rfl, rfl⟩
  have h3 := H.1
  have h9 := H.2.1
  unfold wpX_inverse wpY_inverse
  dsimp only
  rcases dw_unit v1 H.1 H.2.1 with ⟨g, g0, gp, rfl⟩ | z
  · refine dv_x H.2.1 g0 gp ?_
    rw [dw_p2 (by omega)]
    refine dx_r h3 h9 gp (by omega) ?_
    refine dv_y H.2.1 g0 gp ?_
    have q := dy_il (a := a) (post := fun r' => r' = nI (g ^ (p - 2) % p) ∧ i_Rel (k + 5) (nI p) (nI p, a)) H g0 gp ⟨rfl, R⟩ (p - 1) 1 (by omega) (by omega)
    have i0 := dw_inv0 H g0 gp
    unfold dw_an at q
    rw [if_neg (by omega)] at q
    exact ⟨_, q⟩
  · exact dv_x0 z (dv_y0 z ⟨rfl, R⟩)
theorem i_vc_order {k : Nat} {u : SX} {v : SY} (I : i_Rel k u v) (hk : k + 5 ≤ 2560) (v1 : Int32) : wpX_order (fun r => wpY_order (fun r' => r' = r ∧ i_Rel (k + 5) u v) v v1) u v1 := by
  obtain ⟨p, a, H, rfl, rfl⟩ := I
  have R : i_Rel (k + 5) (nI p) (nI p, a) := ⟨p, a, H, rfl, rfl⟩
  unfold wpX_order wpY_order
  dsimp only
  rcases dw_unit v1 H.1 H.2.1 with ⟨g, g0, gp, rfl⟩ | z
  · exact dv_x H.2.1 g0 gp (dx_o H g0 gp (dv_y H.2.1 g0 gp (dy_o H g0 gp ⟨rfl, R⟩)))
  · exact dv_x0 z (dv_y0 z ⟨rfl, R⟩)
theorem i_vc_generator {k : Nat} {u : SX} {v : SY} (I : i_Rel k u v) (hk : k + 5 ≤ 2560) : wpX_generator (fun r => wpY_generator (fun r' => r' = r ∧ i_Rel (k + 5) u v) v) u := by
  obtain ⟨p, a, H, rfl, rfl⟩ := I
  have R : i_Rel (k + 5) (nI p) (nI p, a) := ⟨p, a, H, rfl, rfl⟩
  have h3 := H.1
  have h9 := H.2.1
  unfold wpX_generator wpY_generator wpY_unitOfOrder
  dsimp only
  rw [dw_p1 (by omega)]
  have h1 : (1 : Int32) ≤ nI (p - 1) := nI_le (a := 1) (by omega) (by omega)
  obtain ⟨e, e1, he, hn, ht⟩ := dw_end (fun i => dm_ord p i = p - 1) 1 p (by omega)
  exact dx_l H (by omega) (by omega) he e1 hn ht (br_t h1 ⟨_, dy_ll H (by omega) he hn ht ⟨rfl, R⟩ (e - 1) 1 (by omega) (by omega)⟩)
theorem i_vc_generators {k : Nat} {u : SX} {v : SY} (I : i_Rel k u v) (hk : k + 5 ≤ 2560) : wpX_generators (fun r => wpY_generators (fun r' => r' = r ∧ i_Rel (k + 5) u v) v) u := by
  obtain ⟨p, a, H, rfl, rfl⟩ := I
  have R : i_Rel (k + 5) (nI p) (nI p, a) := ⟨p, a, H, rfl, rfl⟩
  have h3 := H.1
  have h9 := H.2.1
  unfold wpX_generators wpY_generators wpY_unitsOfOrder
  dsimp only
  rw [dw_p1 (by omega)]
  have h1 : (1 : Int32) ≤ nI (p - 1) := nI_le (a := 1) (by omega) (by omega)
  exact dx_c H (by omega) (by omega) (br_t h1 ⟨_, dy_cl H (by omega) ⟨rfl, R⟩ (p - 1) 0 (by omega)⟩)
theorem i_vc_log {k : Nat} {u : SX} {v : SY} (I : i_Rel k u v) (hk : k + 5 ≤ 2560) (v1 : Int32) (v2 : Int32) : wpX_log (fun r => wpY_log (fun r' => r' = r ∧ i_Rel (k + 5) u v) v v1 v2) u v1 v2 := by
  obtain ⟨p, a, H, rfl, rfl⟩ := I
  have R : i_Rel (k + 5) (nI p) (nI p, a) := ⟨p, a, H, rfl, rfl⟩
  have h3 := H.1
  have h9 := H.2.1
  unfold wpX_log wpY_log
  dsimp only
  rcases dw_unit v1 H.1 H.2.1 with ⟨g, g0, gp, rfl⟩ | z
  · rcases dw_unit v2 H.1 H.2.1 with ⟨h, h0, hp, rfl⟩ | w
    · obtain ⟨e, _, he, hn, ht⟩ := dw_end (fun i => g ^ i % p = h) 0 (p - 1) (by omega)
      refine dv_x h9 g0 gp (dv_x h9 h0 hp ?_)
      refine dx_e (e := e) (r := 0) (m := 1) h3 h9 gp hp (by omega) (by omega) he (fun i hi => ?_) (fun hi => ?_) ?_
      · rw [Nat.zero_add, Nat.mul_one]
        exact hn i (by omega) hi
      · rw [Nat.zero_add, Nat.mul_one]
        exact ht hi
      · rw [Nat.zero_add, Nat.mul_one]
        refine dv_y h9 g0 gp (dv_y h9 h0 hp ?_)
        have q := dy_el (a := a) (post := fun r' => r' = dw_an e (p - 1) (nI e) (-4) ∧ i_Rel (k + 5) (nI p) (nI p, a)) h3 h9 gp hp he (fun i hi => hn i (by omega) hi) ht ⟨rfl, R⟩ e 0 (by omega)
        rw [dw_zero h3] at q
        exact ⟨_, q⟩
    · exact dv_x h9 g0 gp (dv_x0 w (dv_y h9 g0 gp (dv_y0 w ⟨rfl, R⟩)))
  · exact dv_x0 z (dv_y0 z ⟨rfl, R⟩)
theorem i_vc_root {k : Nat} {u : SX} {v : SY} (I : i_Rel k u v) (hk : k + 5 ≤ 2560) (v1 : Int32) (v2 : Int32) : wpX_root (fun r => wpY_root (fun r' => r' = r ∧ i_Rel (k + 5) u v) v v1 v2) u v1 v2 := by
  obtain ⟨p, a, H, rfl, rfl⟩ := I
  have R : i_Rel (k + 5) (nI p) (nI p, a) := ⟨p, a, H, rfl, rfl⟩
  have h3 := H.1
  have h9 := H.2.1
  unfold wpX_root wpX_isRootQuestion wpY_root wpY_isExponent
  dsimp only
  rcases dw_unit v1 H.1 H.2.1 with ⟨g, g0, gp, rfl⟩ | z
  · by_cases k1 : v2 < 1
    · exact dv_x h9 g0 gp (br_t k1 (br_t rfl (dv_y h9 g0 gp (br_t k1 (br_t rfl ⟨rfl, R⟩)))))
    · by_cases k2 : 1000000 < v2
      · exact dv_x h9 g0 gp (br_f k1 (br_t k2 (br_t rfl (dv_y h9 g0 gp (br_f k1 (br_t k2 (br_t rfl ⟨rfl, R⟩)))))))
      · obtain ⟨x, hx, rfl⟩ := nI_of2 (n := 1000000) (M := 1000000) (by decide) (dv_n0 k1 (by decide)) (Int32.not_lt.mp k2)
        obtain ⟨e, e1, he, hn, ht⟩ := dw_end (fun i => i ^ x % p = g) 1 p (by omega)
        refine dv_x h9 g0 gp (br_f k1 (br_f k2 (br_f dv_1 ⟨_, dx_tl h3 h9 gp (by omega) he hn ht ?_ (e - 1) 1 (by omega) (by omega)⟩)))
        exact dv_y h9 g0 gp (br_f k1 (br_f k2 (br_f dv_1 ⟨_, dy_tl h3 h9 gp (by omega) he hn ht ⟨rfl, R⟩ (e - 1) 1 (by omega) (by omega)⟩)))
  · exact dv_x0 z (br_t rfl (dv_y0 z ⟨rfl, R⟩))
theorem i_vc_roots {k : Nat} {u : SX} {v : SY} (I : i_Rel k u v) (hk : k + 5 ≤ 2560) (v1 : Int32) (v2 : Int32) : wpX_roots (fun r => wpY_roots (fun r' => r' = r ∧ i_Rel (k + 5) u v) v v1 v2) u v1 v2 := by
  obtain ⟨p, a, H, rfl, rfl⟩ := I
  have R : i_Rel (k + 5) (nI p) (nI p, a) := ⟨p, a, H, rfl, rfl⟩
  have h3 := H.1
  have h9 := H.2.1
  unfold wpX_roots wpX_isRootQuestion wpY_roots wpY_isExponent
  dsimp only
  rcases dw_unit v1 H.1 H.2.1 with ⟨g, g0, gp, rfl⟩ | z
  · by_cases k1 : v2 < 1
    · exact dv_x h9 g0 gp (br_t k1 (br_t rfl (dv_y h9 g0 gp (br_t k1 (br_t rfl ⟨rfl, R⟩)))))
    · by_cases k2 : 1000000 < v2
      · exact dv_x h9 g0 gp (br_f k1 (br_t k2 (br_t rfl (dv_y h9 g0 gp (br_f k1 (br_t k2 (br_t rfl ⟨rfl, R⟩)))))))
      · obtain ⟨x, hx, rfl⟩ := nI_of2 (n := 1000000) (M := 1000000) (by decide) (dv_n0 k1 (by decide)) (Int32.not_lt.mp k2)
        refine dv_x h9 g0 gp (br_f k1 (br_f k2 (br_f dv_1 ⟨_, dx_sl h3 h9 gp (by omega) ?_ (p - 1) 0 (by omega)⟩)))
        exact dv_y h9 g0 gp (br_f k1 (br_f k2 (br_f dv_1 ⟨_, dy_sl h3 h9 gp (by omega) ⟨rfl, R⟩ (p - 1) 0 (by omega)⟩)))
  · exact dv_x0 z (br_t rfl (dv_y0 z ⟨rfl, R⟩))
theorem dv_lw {post : Int32 → Prop} {p g h r m e : Nat} {a : Nat → Int32} (h3 : 2 < p) (h9 : p ≤ 2039) (gp : g < p) (hp : h < p) (m0 : 0 < m) (m6 : m ≤ 60) (hr : r < m) (he : e ≤ p - 1)
    (hn : ∀ i, i < e → ¬ g ^ (r + i * m) % p = h) (ht : e < p - 1 → g ^ (r + e * m) % p = h)
    (k : post (dw_an e (p - 1) (nI (r + e * m)) (-4))) : ∃ n, wY_logWith_47 post (nI g) (nI h) (nI r) (nI m) (nI p) a n 1 0 := by
  by_cases z : e < p - 1
  · have zb := dw_lwb (r := r) (m := m) hr z
    have q := dy_wl (post := post) (a := a) h3 h9 gp hp m0 m6 hr (Nat.le_of_lt zb) (fun x hx => dw_lw (p := p) m0 hr (fun x => g ^ x % p = h) hn (Or.inl hx)) (fun _ => ⟨ht z, dw_lwe hr⟩)
      (by
        have k1 := dw_an_t (P := post) z k
        unfold dw_an
        rw [if_pos zb]
        exact k1) (r + e * m) 0 (by omega)
    rw [dw_zero h3] at q
    exact ⟨_, q⟩
  · have ez : e = p - 1 := by omega
    have q := dy_wl (post := post) (a := a) h3 h9 gp hp m0 m6 hr (Nat.le_refl _) (fun x hx => dw_lw m0 hr (fun x => g ^ x % p = h) hn (Or.inr ⟨ez, hx⟩)) (fun w => absurd w (Nat.lt_irrefl _))
      (by
        have k1 := dw_an_f (P := post) z k
        unfold dw_an
        rw [if_neg (Nat.lt_irrefl _)]
        exact k1) ((p - 1) * m) 0 (by omega)
    rw [dw_zero h3] at q
    exact ⟨_, q⟩
theorem i_vc_logWith {k : Nat} {u : SX} {v : SY} (I : i_Rel k u v) (hk : k + 5 ≤ 2560) (v1 : Int32) (v2 : Int32) (v3 : Int32) (v4 : Int32) : wpX_logWith (fun r => wpY_logWith (fun r' => r' = r ∧ i_Rel (k + 5) u v) v v1 v2 v3 v4) u v1 v2 v3 v4 := by
  obtain ⟨p, a, H, rfl, rfl⟩ := I
  have R : i_Rel (k + 5) (nI p) (nI p, a) := ⟨p, a, H, rfl, rfl⟩
  have h3 := H.1
  have h9 := H.2.1
  unfold wpX_logWith wpY_logWith
  dsimp only
  rcases dw_unit v1 H.1 H.2.1 with ⟨g, g0, gp, rfl⟩ | z
  · rcases dw_unit v2 H.1 H.2.1 with ⟨h, h0, hp, rfl⟩ | w
    · refine dv_x h9 g0 gp (dv_x h9 h0 hp ?_)
      by_cases c1 : v4 < 1
      · exact br_t c1 (dv_y h9 g0 gp (dv_y h9 h0 hp (br_t c1 ⟨rfl, R⟩)))
      · by_cases c2 : 60 < v4
        · exact br_f c1 (br_t c2 (dv_y h9 g0 gp (dv_y h9 h0 hp (br_f c1 (br_t c2 ⟨rfl, R⟩)))))
        · by_cases c3 : v3 < 0
          · exact br_f c1 (br_f c2 (br_t c3 (dv_y h9 g0 gp (dv_y h9 h0 hp (br_f c1 (br_f c2 (br_t c3 ⟨rfl, R⟩)))))))
          · by_cases c4 : v3 < v4
            · obtain ⟨m, hm, rfl⟩ := nI_of2 (n := 60) (M := 60) (by decide) (dv_n0 c1 (by decide)) (Int32.not_lt.mp c2)
              obtain ⟨r, hr, rfl⟩ := nI_of c3
              have rm : r < m := (nI_ltI hr (by omega)).mp c4
              obtain ⟨e, _, he, hn, ht⟩ := dw_end (fun i => g ^ (r + i * m) % p = h) 0 (p - 1) (by omega)
              refine br_f c1 (br_f c2 (br_f c3 (br_t c4 (dx_e h3 h9 gp hp (by omega) hm he (fun i hi => hn i (by omega) hi) ht ?_))))
              exact dv_y h9 g0 gp (dv_y h9 h0 hp (br_f c1 (br_f c2 (br_f c3 (br_t c4 (dv_lw h3 h9 gp hp (by omega) hm rm he (fun i hi => hn i (by omega) hi) ht ⟨rfl, R⟩))))))
            · exact br_f c1 (br_f c2 (br_f c3 (br_f c4 (dv_y h9 g0 gp (dv_y h9 h0 hp (br_f c1 (br_f c2 (br_f c3 (br_f c4 ⟨rfl, R⟩)))))))))
    · exact dv_x h9 g0 gp (dv_x0 w (dv_y h9 g0 gp (dv_y0 w ⟨rfl, R⟩)))
  · exact dv_x0 z (dv_y0 z ⟨rfl, R⟩)
theorem i_vc_common {k : Nat} {u : SX} {v : SY} (I : i_Rel k u v) (hk : k + 5 ≤ 2560) (v1 : Int32) (v2 : Int32) : wpX_common (fun r => wpY_common (fun r' v' => r' = r ∧ i_Rel (k + 5) u v') v v1 v2) u v1 v2 := by
  obtain ⟨p, a, H, rfl, rfl⟩ := I
  have R : ∀ a, i_Rel (k + 5) (nI p) (nI p, a) := fun a => ⟨p, a, H, rfl, rfl⟩
  have h3 := H.1
  have h9 := H.2.1
  unfold wpX_common wpY_common
  dsimp only
  rcases dw_unit v1 H.1 H.2.1 with ⟨g, g0, gp, rfl⟩ | z
  · rcases dw_unit v2 H.1 H.2.1 with ⟨h, h0, hp, rfl⟩ | w
    · have og := dw_Ole H g0 gp
      have oh := dw_Ole H h0 hp
      refine dv_x h9 g0 gp (dv_x h9 h0 hp (dx_o H g0 gp (dx_o H h0 hp (dx_g (by omega) (by omega) (dw_O H g0 gp).1.1 ?_))))
      exact dv_y h9 g0 gp (dv_y h9 h0 hp ⟨_, dy_k1 H g0 gp h0 hp (fun a => ⟨rfl, R a⟩) p 0 a (by omega) (fun i hi => absurd hi (Nat.not_lt_zero i))⟩)
    · exact dv_x h9 g0 gp (dv_x0 w (dv_y h9 g0 gp (dv_y0 w ⟨rfl, R a⟩)))
  · exact dv_x0 z (dv_y0 z ⟨rfl, R a⟩)
theorem i_vc_unitOfOrder {k : Nat} {u : SX} {v : SY} (I : i_Rel k u v) (hk : k + 5 ≤ 2560) (v1 : Int32) : wpX_unitOfOrder (fun r => wpY_unitOfOrder (fun r' => r' = r ∧ i_Rel (k + 5) u v) v v1) u v1 := by
  obtain ⟨p, a, H, rfl, rfl⟩ := I
  have R : i_Rel (k + 5) (nI p) (nI p, a) := ⟨p, a, H, rfl, rfl⟩
  have h3 := H.1
  unfold wpX_unitOfOrder wpY_unitOfOrder
  dsimp only
  by_cases h1 : 1 ≤ v1
  · obtain ⟨d, d0, hd, rfl⟩ := dv_1le h1
    obtain ⟨e, e1, he, hn, ht⟩ := dw_end (fun i => dm_ord p i = d) 1 p (by omega)
    exact br_t h1 (dx_l H d0 hd he e1 hn ht (br_t h1 ⟨_, dy_ll H hd he hn ht ⟨rfl, R⟩ (e - 1) 1 (by omega) (by omega)⟩))
  · exact br_f h1 (br_f h1 ⟨rfl, R⟩)
theorem i_vc_unitsOfOrder {k : Nat} {u : SX} {v : SY} (I : i_Rel k u v) (hk : k + 5 ≤ 2560) (v1 : Int32) : wpX_unitsOfOrder (fun r => wpY_unitsOfOrder (fun r' => r' = r ∧ i_Rel (k + 5) u v) v v1) u v1 := by
  obtain ⟨p, a, H, rfl, rfl⟩ := I
  have R : i_Rel (k + 5) (nI p) (nI p, a) := ⟨p, a, H, rfl, rfl⟩
  have h3 := H.1
  unfold wpX_unitsOfOrder wpY_unitsOfOrder
  dsimp only
  by_cases h1 : 1 ≤ v1
  · obtain ⟨d, d0, hd, rfl⟩ := dv_1le h1
    exact br_t h1 (dx_c H d0 hd (br_t h1 ⟨_, dy_cl H hd ⟨rfl, R⟩ (p - 1) 0 (by omega)⟩))
  · exact br_f h1 (br_f h1 ⟨rfl, R⟩)
