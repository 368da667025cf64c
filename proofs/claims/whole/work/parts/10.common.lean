-- Y: common, by marks
theorem dy_k3 {post : Int32 → SY → Prop} {p g h : Nat} {a : Nat → Int32} (H : dw_M p) (g0 : 0 < g) (gp : g < p) (h0 : 0 < h) (hp : h < p)
    (K : dw_K p g (p - 1) a) (k : post (nI (Nat.gcd (dm_ord p g) (dm_ord p h))) (nI p, a)) :
    ∀ m x, x + m = dm_ord p h → wY_common_94 post (nI h) (nI (dm_ord p h)) (nI p) a (m + 1) (nI (h ^ (x + 1) % p))
      (nI (dm_cnt (fun x => dm_d (∃ y, y < p - 1 ∧ g ^ y % p = h ^ (x + 1) % p)) x)) (nI x) := by
  have p3 := H.1
  have p9 := H.2.1
  have ol := dw_Ole H h0 hp
  have cm := dw_common H g0 gp h0 hp
  intro m
  induction m with
  | zero =>
    intro x hx
    have ex : x = dm_ord p h := by omega
    rw [ex, cm]
    exact br_t (nI_le (Nat.le_refl _) (by omega)) k
  | succ m ih =>
    intro x hx
    have hv : h ^ (x + 1) % p < p := Nat.mod_lt _ (by omega)
    have nx := ih (x + 1) (by omega)
    have st : ∀ c : Nat, wY_common_94 post (nI h) (nI (dm_ord p h)) (nI p) a (m + 1) (nI (h ^ (x + 1 + 1) % p)) (nI c) (nI (x + 1)) →
        wY_common_113 post (wY_common_94 post (nI h) (nI (dm_ord p h)) (nI p) a (m + 1)) (nI h) (nI (h ^ (x + 1) % p)) (nI c) (nI (dm_ord p h)) (nI x) (nI p) a := by
      intro c w
      refine ⟨nI_ne0 (by omega) (by omega), nm_r (e' := nI (h ^ (x + 1 + 1) % p)) ?_ (nm_r (nI_1 x) w)⟩
      rw [dw_tm (by omega) p9 hv hp, dm_ps]
    refine br_f (nI_ge (by omega) (by omega)) ⟨vp_in_nI (by omega) (by omega), ?_⟩
    rw [nI_clamp (by omega)]
    by_cases z : a (h ^ (x + 1) % p) = 0
    · refine br_t z (st _ ?_)
      rw [dm_cnt_f (P := fun x => dm_d (∃ y, y < p - 1 ∧ g ^ y % p = h ^ (x + 1) % p)) (fun w => (K _ hv).mpr (dm_d_iff.mp w) z)] at nx
      exact nx
    · refine br_f z (nm_r (nI_1 _) (st _ ?_))
      rw [dm_cnt_t (P := fun x => dm_d (∃ y, y < p - 1 ∧ g ^ y % p = h ^ (x + 1) % p)) (dm_d_iff.mpr ((K _ hv).mp z))] at nx
      exact nx
theorem dy_k2 {post : Int32 → SY → Prop} {p g h : Nat} (H : dw_M p) (g0 : 0 < g) (gp : g < p) (h0 : 0 < h) (hp : h < p)
    (k : ∀ a, post (nI (Nat.gcd (dm_ord p g) (dm_ord p h))) (nI p, a)) :
    ∀ m x a, x + m = p - 1 → dw_K p g x a → wY_common_46 post (nI g) (nI h) (nI p) (m + 1) (nI (g ^ x % p)) (nI x) a := by
  have p3 := H.1
  have p9 := H.2.1
  intro m
  induction m with
  | zero =>
    intro x a hx K
    have ex : x = p - 1 := by omega
    rw [ex] at K ⊢
    refine pk_le (p - 1) (p - 1) (fun z => ?_) (fun z => absurd z (by omega)) (dw_p1 (by omega))
    refine dy_o H h0 hp ?_
    have e := dy_k3 H g0 gp h0 hp K (k a) (dm_ord p h) 0 (by omega)
    rw [dw_self hp] at e
    exact ⟨_, e⟩
  | succ m ih =>
    intro x a hx K
    have hv : g ^ x % p < p := Nat.mod_lt _ (by omega)
    refine pk_le (p - 1) x (fun z => absurd z (by omega)) (fun z => ?_) (dw_p1 (by omega))
    refine ⟨vp_in_nI (by omega) (by omega), ?_⟩
    rw [nI_clamp (by omega)]
    refine nm_e ⟨nI_ne0 (by omega) (by omega), nm_r (e' := nI (g ^ (x + 1) % p)) ?_ (nm_r (nI_1 x) (ih (x + 1) _ (by omega) (dw_K1 K dw_bo1)))⟩
    rw [dw_tm (by omega) p9 hv gp, dm_ps]
theorem dy_k1 {post : Int32 → SY → Prop} {p g h : Nat} (H : dw_M p) (g0 : 0 < g) (gp : g < p) (h0 : 0 < h) (hp : h < p)
    (k : ∀ a, post (nI (Nat.gcd (dm_ord p g) (dm_ord p h))) (nI p, a)) :
    ∀ m u a, u + m = p → dw_Z u a → wY_common_20 post (nI g) (nI h) (nI p) (m + 1) (nI u) a := by
  have p3 := H.1
  have p9 := H.2.1
  intro m
  induction m with
  | zero =>
    intro u a hu Z
    have eu : u = p := by omega
    rw [eu] at Z ⊢
    refine br_t (nI_le (Nat.le_refl p) (by omega)) ?_
    have e := dy_k2 H g0 gp h0 hp k (p - 1) 0 a (by omega) (dw_K0 Z)
    rw [dw_zero p3] at e
    exact ⟨_, e⟩
  | succ m ih =>
    intro u a hu Z
    refine br_f (nI_ge (by omega) (by omega)) ⟨vp_in_nI (by omega) (by omega), ?_⟩
    rw [nI_clamp (by omega)]
    exact nm_e (nm_r (nI_1 u) (ih (u + 1) _ (by omega) (dw_Z1 Z dw_bo0)))
