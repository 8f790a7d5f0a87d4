/-! THE FIRST STATE -/
def A0 : PS := (fun _ => 0, fun _ => 0, fun _ => 0, fun _ => 0, fun _ _ _ => 0, 0, 0)
theorem dM0_z {P j : Nat} (hj : j ≠ 8) : dM (fun _ _ => 0) P P j = 0 := by
  simp only [dM, hu, dT]
  rw [if_neg (by omega), if_neg (by omega)]
theorem dM0_8 {P : Nat} : dM (fun _ _ => 0) P P 8 = 1 := by
  unfold dM
  exact hu_s
theorem dM0_lo {P q j : Nat} (hq : P < q) (hq2 : q < P + 9 ∨ P + 29 ≤ q) : dM (fun _ _ => 0) P q j = 0 := by
  simp only [dM, hu, dT]
  rw [if_neg (by omega), if_neg (by omega)]
theorem dM0_t {P t j : Nat} (ht : t < 20) : dM (fun _ _ => 0) P (P + 2 + 7 + t) j = if j = 3 ∨ j = 6 then -1 else 0 := by
  simp only [dM, hu, dT]
  rw [if_neg (by omega)]
  by_cases h : j = 3 ∨ j = 6
  · rw [if_pos h, if_pos (by omega)]
  · rw [if_neg h, if_neg (by omega)]
theorem Fu_0 {N n z : Nat} {xs : Nat → Int32} {kd kd' : Nat → Option hK} {d : Nat → Nat → Int32} {r r' : Nat → Nat → Option Nat} (hz : z ≤ 100000) (hF : Fr (8 + 30 * N) kd d r) (hS : Sh N kd r) (k7 : kd 7 = some (.inl 2)) (hr7 : ∀ i, i < N → ∀ k, k < 60 → r (8 + 30 * i + 1) k = some 7) (d10 : d 1 0 = nI N) (d1z : ∀ j, j ≠ 0 → d 1 j = 0) (dz : ∀ q j, 2 ≤ q → q ≤ 6 → d q j = 0) (dm : ∀ i, i < N → ∀ q j, 8 + 30 * i ≤ q → q < 8 + 30 * i + 30 → d q j = dM (fun _ _ => 0) (8 + 30 * i) q j) (k0 : kd 0 = some (.inr (.inl (.int, n)))) (hx : ∀ j, d 0 j = xs j)
    (hF' : Fr (8 + 30 * N + 20) kd' (hu d (8 + 30 * N) 1 (nI N)) r') (hk : ∀ q, q < 8 + 30 * N → kd' q = kd q) (hr : ∀ q j, q < 8 + 30 * N → r' q j = r q j) (hrs : rs kd' r' (8 + 30 * N)) : Fu N 0 n (8 + 30 * N + 20) z xs kd' (hu d (8 + 30 * N) 1 (nI N)) r' A0 0 := by
  have hN := hS.1
  have hS' : Sh N kd' r' := Sh_mono hS hk hr
  have lo : ∀ q j, q < 8 + 30 * N → hu d (8 + 30 * N) 1 (nI N) q j = d q j := fun q j hq => hu_n (by omega)
  have hi : ∀ q j, 8 + 30 * N ≤ q → ¬ (q = 8 + 30 * N ∧ j = 1) → hu d (8 + 30 * N) 1 (nI N) q j = 0 := fun q j hq hc => (hu_n hc).trans ((hF q hq).2.1 j)
  have mm : ∀ i, i < N → ∀ j, j ≠ 8 → hu d (8 + 30 * N) 1 (nI N) (8 + 30 * i) j = 0 := fun i hi j hj => (lo _ _ (by omega)).trans ((dm i hi _ _ (by omega) (by omega)).trans (dM0_z hj))
  have ml : ∀ i, i < N → ∀ q j, 8 + 30 * i < q → q < 8 + 30 * i + 30 → (q < 8 + 30 * i + 9 ∨ 8 + 30 * i + 29 ≤ q) → hu d (8 + 30 * N) 1 (nI N) q j = 0 := fun i hi q j h1 h2 h3 => (lo _ _ (by omega)).trans ((dm i hi _ _ (by omega) (by omega)).trans (dM0_lo h1 h3))
  generalize hD : hu d (8 + 30 * N) 1 (nI N) = D at *
  have dY1 : D (8 + 30 * N) 1 = nI N := by rw [← hD]; exact hu_s
  refine ⟨hS', hrs, (lo _ _ (by omega)).trans d10, dY1, ⟨fun _ _ _ _ => rfl, fun _ _ _ => rfl, fun i hi k hk' => ?_, fun i hi => ⟨mm i hi 4 (by omega), mm i hi 5 (by omega), mm i hi 6 (by omega), mm i hi 7 (by omega), Nat.zero_le _, Nat.zero_le _, by show 0 < 1000000; omega, by show 0 < 1000000; omega, fun k hk => absurd hk (Nat.not_lt_zero k)⟩, (lo 1 4 (by omega)).trans (d1z 4 (by omega)), (lo 1 5 (by omega)).trans (d1z 5 (by omega)), Nat.zero_le _, by show 0 < 1000000; omega⟩,
    ⟨fun _ _ _ _ _ _ _ _ => rfl, fun i hi' => ⟨hi _ _ (by omega) (by omega), hi _ _ (by omega) (by omega), hi _ _ (by omega) (by omega), hi _ _ (by omega) (by omega), Nat.zero_le _, Nat.zero_le _, by show 0 < 1000000; omega, by show 0 < 1000000; omega, fun k hk => absurd hk (Nat.not_lt_zero k)⟩, hi _ _ (by omega) (by omega), hi _ _ (by omega) (by omega), Nat.zero_le _, by show 0 < 1000000; omega⟩,
    fun i hi' => ⟨mm i hi' 3 (by omega), ⟨(0, 0, D (8 + 30 * i + 2 + 1), D (8 + 30 * i + 2 + 3), tk D (8 + 30 * i + 2), D (8 + 30 * i + 2 + 2)), ⟨ml i hi' _ _ (by omega) (by omega) (by omega), ml i hi' _ _ (by omega) (by omega) (by omega), rfl, rfl, rfl, rfl⟩, rfl, rfl, funext (fun j => ml i hi' _ _ (by omega) (by omega) (by omega)), funext (fun j => ml i hi' _ _ (by omega) (by omega) (by omega)), fun t ht => funext (fun j => ?_), funext (fun j => ml i hi' _ _ (by omega) (by omega) (by omega))⟩, fun k hk => absurd hk (Nat.not_lt_zero k)⟩,
    ⟨(lo _ _ (by omega)).trans (dz 3 2 (by omega) (by omega)), (lo _ _ (by omega)).trans (dz 3 3 (by omega) (by omega)), fun k _ hg => absurd ((lo _ _ (by omega)).trans (dz 4 k (by omega) (by omega))) hg⟩, ⟨hi _ _ (by omega) (by omega), fun g hg => absurd hg (Nat.not_lt_zero g)⟩, ⟨fun i hi' => ?_, fun a b ha hb => ?_⟩, iv_0 (by omega), ⟨fun i _ => Nat.zero_le _, Nat.zero_le _, Nat.le_refl _, Nat.le_refl _, by omega, by omega⟩, fun p hp => (hF' p hp).1, (hk 0 (by omega)).trans k0, fun j => (lo 0 j (by omega)).trans (hx j)⟩
  · have e : r' (8 + 30 * i + 1) k = some 7 := (hr _ _ (by omega)).trans (hr7 i hi k hk')
    have eo : op r' (8 + 30 * i) k = 7 := by simp only [op]; rw [e]; rfl
    rw [eo]
    exact ⟨e, (hk 7 (by omega)).trans k7⟩
  · show D (8 + 30 * i + 2 + 7 + t) j = _
    rw [lo _ _ (by omega), dm i hi' _ _ (by omega) (by omega), dM0_t ht]
    rfl
  · have e8 : D (8 + 30 * i) 8 = 1 := (lo _ _ (by omega)).trans ((dm i hi' _ _ (by omega) (by omega)).trans dM0_8)
    have e5 : D (8 + 30 * N + 5) i = 0 := hi _ _ (by omega) (by omega)
    rw [e8, e5]
    decide
  · have e2 : D 2 (a * N + b) = 0 := (lo _ _ (by omega)).trans (dz 2 _ (by omega) (by omega))
    have e6 : D (8 + 30 * N + 6) (5 * a + b) = 0 := hi _ _ (by omega) (by omega)
    rw [e2, e6]
theorem c_cell {X : hX} {K z n : Nat} {kd : Nat → Option hK} {d : Nat → Nat → Int32} {r : Nat → Nat → Option Nat} (hk : kd 0 = some (.inr (.inl (.int, n)))) (hn : n ≤ 5121) : Cl X kL_cell [.inr (some 0), .inl 0] (K, z, kd, d, r) (fun rv M' => rv = some (.inl (if 0 < n then d 0 0 else 0)) ∧ M' = (K, z, kd, d, r)) := by
  refine h_ofWp oL_cell (by decide) (Nat.le_of_ble_eq_true rfl) ?_
  refine wp_iload_n rfl rfl ?_
  refine wp_aload_n rfl rfl ?_
  refine st_alen rfl (by assumption) ?_
  refine wp_icmp_ge (tgt := 12) rfl (by decide) ?_ ?_
  · intro h
    refine wp_iconst (v := 0) rfl (by decide) ?_
    refine wp_ireturn rfl .int rfl rfl ?_
    refine ⟨?_, rfl⟩
    rw [if_neg (fun q => by
      rw [i_le, i_nI (by omega), show (0 : Int32).toInt = 0 by decide] at h
      omega)]
  · intro h
    have h0 : 0 < n := by
      rcases Nat.eq_zero_or_pos n with e | e
      · subst e; exact absurd (show nI 0 ≤ (0 : Int32) by decide) h
      · exact e
    refine wp_aload_n rfl rfl ?_
    refine wp_iload_n rfl rfl ?_
    refine st_iald rfl (hk) ((show (0 : Int32) = nI 0 from rfl)) (h0) (by first | decide | omega) rfl ?_
    refine wp_goto (tgt := 13) rfl (by decide) ?_
    refine wp_ireturn rfl .int rfl rfl ?_
    exact ⟨by rw [if_pos h0], rfl⟩
