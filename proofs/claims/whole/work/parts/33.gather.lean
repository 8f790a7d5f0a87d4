/-! THE CLASS: gathering a majority, the next view, carrying out -/
section GATHER
variable {X : hX} {K z : Nat} {kd : Nat → Option hK} {d d0 : Nat → Nat → Int32} {r r0 : Nat → Nat → Option Nat} {N m j : Nat} {A : PS}
theorem cW_keep (hS : Sh N kd r0) (hW : cW N kd d0 r0 A d r) (hj : j < N) {v n : Nat} {d' : Nat → Nat → Int32} (e4 : d' (8 + 30 * j) 4 = nI v) (e5 : d' (8 + 30 * j) 5 = nI n) (hv : v < 1000000) (hn : n < 1000000) (ed : ∀ q i, ¬ (q = 8 + 30 * j ∧ 4 ≤ i ∧ i ≤ 5) → d' q i = d q i) : cW N kd d0 r0 (pSet A j v n (pl A j) (pd A j) (pg A j)) d' r := by
  obtain ⟨h1, h2, h3, h4, h5, h6, h7, h8⟩ := id hW
  obtain ⟨a4, a5, a6, a7, b1, b2, b3, b4, b5⟩ := h4 j hj
  have hkm : kd (8 + 30 * j) = some (.inl 1) := (hS.2.2.2.2.2.2.2.2.2.2.2.2 j hj).2.1
  refine cW_set hS hW hj e4 e5 ((ed _ _ (by omega)).trans a6) ((ed _ _ (by omega)).trans a7) (fun q i hq => ed q i (by omega)) (fun _ _ _ => rfl) (h3 j hj) b1 b2 hv hn ?_
  intro k hk i hi
  have hne2 : op r (8 + 30 * j) k ≠ 8 + 30 * j := fun hc => by
    have q1 := (h3 j hj k (by omega)).2
    rw [hc, hkm] at q1
    cases q1
  show d' (op r (8 + 30 * j) k) i = _
  rw [ed _ _ (fun hc => hne2 hc.1)]
  exact b5 k hk i hi
theorem c_joinsP (hS : Sh N kd r0) (hW : cW N kd d0 r0 A d r) (hj : j < N) {v : Nat} (hv : v < 1000000) : Cl X kX1_joins [.inr (some (8 + 30 * j)), .inl (nI v)] (K, z, kd, d, r) (fun rv M' => ∃ d', M' = (K, z, kd, d', r) ∧ cW N kd d0 r0 (pJo A j v) d' r ∧ ((pv (pJo A j v) j = v ∧ ¬ pn (pJo A j v) j = pv (pJo A j v) j) ∧ rv = some (.inl 1) ∨ ¬ (pv (pJo A j v) j = v ∧ ¬ pn (pJo A j v) j = pv (pJo A j v) j) ∧ rv = some (.inl 0))) := by
  obtain ⟨a4, a5, a6, a7, b1, b2, b3, b4, b5⟩ := hW.2.2.2.1 j hj
  refine (c_joins (Sh_r hS hW.2.1 |>.2.2.2.2.2.2.2.2.2.2.2.2 j hj |>.2.1)).mono ?_
  rintro rv M' ⟨d', rfl, hd, rfl⟩
  have hW' : cW N kd d0 r0 (pJo A j v) d' r := by
    by_cases hc : pv A j < v
    · rw [pJo, if_pos hc]
      rw [a4, if_pos ((nI_ltI (by omega) (by omega)).mpr hc)] at hd
      subst hd
      exact cW_keep hS hW hj (by rw [hu_s]) (by rw [hu_n (by omega)]; exact a5) hv b4 (fun q i hq => hu_n (by omega))
    · rw [pJo, if_neg hc]
      rw [a4, if_neg (fun q => hc ((nI_ltI (by omega) (by omega)).mp q))] at hd
      subst hd
      exact hW
  refine ⟨d', rfl, hW', ?_⟩
  obtain ⟨a4, a5, a6, a7, b1, b2, b3, b4, b5⟩ := hW'.2.2.2.1 j hj
  have hiff : (d' (8 + 30 * j) 4 = nI v ∧ ¬ d' (8 + 30 * j) 5 = d' (8 + 30 * j) 4) ↔ (pv (pJo A j v) j = v ∧ ¬ pn (pJo A j v) j = pv (pJo A j v) j) := by
    rw [a4, a5, nI_eq (by omega) (by omega), nI_eq (by omega) (by omega)]
  by_cases hc : pv (pJo A j v) j = v ∧ ¬ pn (pJo A j v) j = pv (pJo A j v) j
  · exact Or.inl ⟨hc, by rw [bI, if_pos (hiff.mpr hc)]⟩
  · exact Or.inr ⟨hc, by rw [bI, if_neg (fun q => hc (hiff.mp q))]⟩
theorem c_leadP (hS : Sh N kd r0) (hW : cW N kd d0 r0 A d r) (hm : m < N) {b e : Nat} (hb : b < N) (he : e ≤ 60) : Cl X kX1_lead [.inr (some (8 + 30 * m)), .inr (some (8 + 30 * b)), .inl (nI e)] (K, z, kd, d, r) (fun rv M' => rv = none ∧ ∃ d' r', M' = (K, z, kd, d', r') ∧ cW N kd d0 r0 (pLe A m b e) d' r') := by
  have hS' := Sh_r hS hW.2.1
  obtain ⟨h1, h2, h3, h4, h5, h6, h7, h8⟩ := id hW
  obtain ⟨a4, a5, a6, a7, b1, b2, b3, b4, b5⟩ := h4 b hb
  obtain ⟨a4', a5', a6', a7', b1', b2', b3', b4', b5'⟩ := h4 m hm
  have hkm : kd (8 + 30 * m) = some (.inl 1) := (hS.2.2.2.2.2.2.2.2.2.2.2.2 m hm).2.1
  refine (c_lead (hS'.2.2.2.2.2.2.2.2.2.2.2.2 m hm).2 (hS'.2.2.2.2.2.2.2.2.2.2.2.2 b hb).2 (h3 b hb) a6 b1).mono ?_
  rintro rv M' ⟨rfl, rfl⟩
  refine ⟨rfl, _, _, rfl, ?_⟩
  have er : ∀ k, k < pl A b → rT r (8 + 30 * m) (8 + 30 * b) (pl A b) (8 + 30 * m + 1) k = r (8 + 30 * b + 1) k := fun k hk => if_pos ⟨rfl, hk⟩
  have er2 : ∀ k, ¬ k < pl A b → rT r (8 + 30 * m) (8 + 30 * b) (pl A b) (8 + 30 * m + 1) k = r (8 + 30 * m + 1) k := fun k hk => if_neg (fun h => hk h.2)
  have eo : ∀ k, k < pl A b → op (rT r (8 + 30 * m) (8 + 30 * b) (pl A b)) (8 + 30 * m) k = op r (8 + 30 * b) k := fun k hk => by simp only [op]; rw [er k hk]
  refine cW_set hS hW hm ?_ ?_ ?_ ?_ ?_ ?_ ?_ b1 he b3' b3' ?_
  · rw [hu_n (by omega), hu_n (by omega), hu_n (by omega)]; exact a4'
  · rw [hu_s]; exact a4'
  · rw [hu_n (by omega), hu_n (by omega), hu_s]
  · rw [hu_n (by omega), hu_s]
  · intro q i hq
    rw [hu_n (by omega), hu_n (by omega), hu_n (by omega)]
  · intro q i hq
    exact rT_o hq i
  · intro k hk
    by_cases hc : k < pl A b
    · rw [er k hc, eo k hc]
      exact h3 b hb k hk
    · rw [er2 k hc, show op (rT r (8 + 30 * m) (8 + 30 * b) (pl A b)) (8 + 30 * m) k = op r (8 + 30 * m) k by simp only [op]; rw [er2 k hc]]
      exact h3 m hm k hk
  · intro k hk i hi
    have hne2 : op r (8 + 30 * b) k ≠ 8 + 30 * m := fun hc => by
      have q1 := (h3 b hb k (by omega)).2
      rw [hc, hkm] at q1
      cases q1
    show hu _ _ _ _ (op (rT r (8 + 30 * m) (8 + 30 * b) (pl A b)) (8 + 30 * m) k) i = _
    rw [eo k hk, hu_n (by omega), hu_n (by omega), hu_n (by omega)]
    exact b5 k hk i hi
theorem c_knowsP (hS : Sh N kd r0) (hW : cW N kd d0 r0 A d r) (hj : j < N) {b : Nat} (hb : b < N) : Cl X kX1_knowsMoreThan [.inr (some (8 + 30 * j)), .inr (some (8 + 30 * b))] (K, z, kd, d, r) (fun rv M' => M' = (K, z, kd, d, r) ∧ ((pn A b < pn A j ∨ pn A j = pn A b ∧ pl A b < pl A j) ∧ rv = some (.inl 1) ∨ ¬ (pn A b < pn A j ∨ pn A j = pn A b ∧ pl A b < pl A j) ∧ rv = some (.inl 0))) := by
  have hS' := Sh_r hS hW.2.1
  obtain ⟨a4, a5, a6, a7, b1, b2, b3, b4, b5⟩ := hW.2.2.2.1 b hb
  obtain ⟨a4', a5', a6', a7', b1', b2', b3', b4', b5'⟩ := hW.2.2.2.1 j hj
  refine (c_knows (hS'.2.2.2.2.2.2.2.2.2.2.2.2 j hj).2.1 (hS'.2.2.2.2.2.2.2.2.2.2.2.2 b hb).2.1).mono ?_
  rintro rv M' ⟨rfl, rfl⟩
  refine ⟨rfl, ?_⟩
  have hiff : (d (8 + 30 * b) 5 < d (8 + 30 * j) 5 ∨ d (8 + 30 * j) 5 = d (8 + 30 * b) 5 ∧ d (8 + 30 * b) 6 < d (8 + 30 * j) 6) ↔ (pn A b < pn A j ∨ pn A j = pn A b ∧ pl A b < pl A j) := by
    rw [a5, a5', a6, a6', nI_ltI (by omega) (by omega), nI_eq (by omega) (by omega), nI_ltI (by omega) (by omega)]
  by_cases hc : pn A b < pn A j ∨ pn A j = pn A b ∧ pl A b < pl A j
  · exact Or.inl ⟨hc, by rw [bI, if_pos (hiff.mpr hc)]⟩
  · exact Or.inr ⟨hc, by rw [bI, if_neg (fun q => hc (hiff.mp q))]⟩
/-- what gathering makes of the numbers -/
noncomputable def pGl (N : Nat) (rch : Nat → Prop) (m : Nat) (A : PS) : PS × Bool := match pGa N rch (pv A m) N 0 A m (pd A m) 1 with
  | (A', none) => (A', false)
  | (A', some (b, e)) => (pLe A' m b e, true)
theorem c_gather (hS : Sh N kd r0) (hd : d0 1 0 = nI N) (hm : m < N) : ∀ (A : PS) (d : Nat → Nat → Int32) (r : Nat → Nat → Option Nat), cW N kd d0 r0 A d r → pB A + pL A < 1000000 → Cl X kX5_gatherMajority [.inr (some 1), .inl (nI m)] (K, z, kd, d, r) (fun rv M' => ∃ d' r', M' = (K, z, kd, d', r') ∧ cW N kd d0 r0 (pGl N (rcB N d0 m) m A).1 d' r' ∧ rv = some (.inl (if (pGl N (rcB N d0 m) m A).2 = true then 1 else 0))) := by
  intro A d r hW hb
  have hN5 : N = 3 ∨ N = 5 := hS.1
  refine h_ofWp oX5_gatherMajority (by decide) (Nat.le_of_ble_eq_true rfl) ?_
  generalize hQ : (fun (rv : Option hV) (M' : hM) => ∃ d' r', M' = (K, z, kd, d', r') ∧ cW N kd d0 r0 (pGl N (rcB N d0 m) m A).1 d' r' ∧ rv = some (.inl (if (pGl N (rcB N d0 m) m A).2 = true then 1 else 0))) = Q
  have fail : ∀ (A' : PS) d r, cW N kd d0 r0 A' d r → pGa N (rcB N d0 m) (pv A m) N 0 A m (pd A m) 1 = (A', none) → Q (some (.inl 0)) (K, z, kd, d, r) := fun A' d r hW he => by
    rw [← hQ]
    refine ⟨d, r, rfl, ?_, ?_⟩
    · rw [show (pGl N (rcB N d0 m) m A).1 = A' by rw [pGl, he]]; exact hW
    · rw [show (pGl N (rcB N d0 m) m A).2 = false by rw [pGl, he]]; rfl
  -- behind the loop, with a majority
  have done : ∀ (A' : PS) d r (b e t : Nat) x6, b < N → e ≤ 60 → t < 100 → N < t * 2 → cW N kd d0 r0 A' d r → pGa N (rcB N d0 m) (pv A m) N 0 A m (pd A m) 1 = (A', some (b, e)) → Wp X kX5_gatherMajority K z 138 [some (.inr (some 1)), some (.inl (nI m)), some (.inr (some (8 + 30 * m))), some (.inr (some (8 + 30 * b))), some (.inl (nI e)), some (.inl (nI t)), x6] [] (K, z, kd, d, r) Q := by
    intro A' d r b e t x6 hb he ht hmaj hW heq
    have k1 := hS.2.1
    have km : kd (8 + 30 * m) = some (.inl 1) := (hS.2.2.2.2.2.2.2.2.2.2.2.2 m hm).2.1
    refine wp_aload_n rfl rfl ?_
    refine wp_iload rfl rfl ?_
    refine wp_V1 rfl mX5_gatherMajority_172 (k1) (Nat.le_of_ble_eq_true rfl) (c_isMajority (n := N) k1 ((hW.1 1 0 (by omega) (fun i _ => by omega)).trans hd) (by omega) (by omega)) ?_
    rintro _ _ ⟨rfl, rfl⟩
    rw [if_pos hmaj]
    refine wp_if_ne (tgt := 149) rfl (by decide) ?_ ?_
    · intro _
      refine wp_aload_n rfl rfl ?_
      refine wp_aload_n rfl rfl ?_
      refine wp_iload rfl rfl ?_
      refine wp_V2 rfl mX5_gatherMajority_188 (km) (Nat.le_of_ble_eq_true rfl) (c_leadP hS hW hm hb he) ?_
      rintro _ _ ⟨rfl, d', r', rfl, hW'⟩
      refine wp_iconst (v := 1) rfl (by decide) ?_
      refine wp_ireturn rfl .boolean rfl rfl ?_
      rw [← hQ]
      refine ⟨d', r', rfl, ?_, ?_⟩
      · rw [show (pGl N (rcB N d0 m) m A).1 = pLe A' m b e by rw [pGl, heq]]; exact hW'
      · rw [show (pGl N (rcB N d0 m) m A).2 = true by rw [pGl, heq]]; rfl
    · intro hc
      exact absurd hc (by decide)
  have loop : ∀ n j t b e (A' : PS) d r, j + n = N → t ≤ j + 1 → b < N → e ≤ 60 → cW N kd d0 r0 A' d r → pv A' m = pv A m → pB A' + pL A' < 1000000 → pGa N (rcB N d0 m) (pv A m) n j A' b e t = pGa N (rcB N d0 m) (pv A m) N 0 A m (pd A m) 1 → Wp X kX5_gatherMajority K z 21 [some (.inr (some 1)), some (.inl (nI m)), some (.inr (some (8 + 30 * m))), some (.inr (some (8 + 30 * b))), some (.inl (nI e)), some (.inl (nI t)), some (.inl (nI j))] [] (K, z, kd, d, r) Q := by
    intro n
    induction n with
    | zero =>
      intro j t b e A' d r hj ht hbN he60 hW hpv hb he
      have k1 := hS.2.1
      have : j = N := by omega
      subst this
      refine wp_iload rfl rfl ?_
      refine wp_aload_n rfl rfl ?_
      refine st_getI rfl fX5_7 rfl (by assumption) ((hW.1 1 0 (by omega) (fun i _ => by omega)).trans hd) ?_
      refine wp_icmp_ge (tgt := 138) rfl (by decide) ?_ ?_
      · intro _
        by_cases hmaj : j < t * 2
        · exact done A' d r b e t _ hbN he60 (by omega) hmaj hW (by rw [← he]; show (A', if j < t * 2 then some (b, e) else none) = _; rw [if_pos hmaj])
        · have hf : pGa j (rcB j d0 m) (pv A m) j 0 A m (pd A m) 1 = (A', none) := by
            rw [← he]
            show (A', if j < t * 2 then some (b, e) else none) = _
            rw [if_neg hmaj]
          refine wp_aload_n rfl rfl ?_
          refine wp_iload rfl rfl ?_
          refine wp_V1 rfl mX5_gatherMajority_172 (k1) (Nat.le_of_ble_eq_true rfl) (c_isMajority (n := j) k1 ((hW.1 1 0 (by omega) (fun i _ => by omega)).trans hd) (by omega) (by omega)) ?_
          rintro _ _ ⟨rfl, rfl⟩
          rw [if_neg hmaj]
          refine wp_if_ne (tgt := 149) rfl (by decide) ?_ ?_
          · intro hc
            exact absurd rfl hc
          · intro _
            refine wp_iconst (v := 0) rfl (by decide) ?_
            refine wp_ireturn rfl .boolean rfl rfl ?_
            exact fail A' d r hW hf
      · intro h
        exact absurd (nI_le (Nat.le_refl _) (by omega)) h
    | succ n ih =>
      intro j t b e A' d r hj ht hbN he60 hW hpv hb he
      have hjN : j < N := by omega
      obtain ⟨hN, k1, a1, a2, a3, k2, k3, b0, b1, k4, k5, k6, hmm⟩ := id (Sh_r hS hW.2.1)
      have km := (hmm m hm).2.1
      have kj := (hmm j hjN).2.1
      obtain ⟨c4, c5, c6, c7, e1, e2, e3, e4, e5⟩ := hW.2.2.2.1 m hm
      refine wp_iload rfl rfl ?_
      refine wp_aload_n rfl rfl ?_
      refine st_getI rfl fX5_7 rfl (by assumption) ((hW.1 1 0 (by omega) (fun i _ => by omega)).trans hd) ?_
      refine wp_icmp_ge (tgt := 138) rfl (by decide) ?_ ?_
      · intro h
        exact absurd h (nI_ge hjN (by omega))
      · intro _
        refine wp_aload_n rfl rfl ?_
        refine wp_iload rfl rfl ?_
        refine wp_V1 rfl mX5_gatherMajority_172 (k1) (Nat.le_of_ble_eq_true rfl) (c_isMajority (n := N) k1 ((hW.1 1 0 (by omega) (fun i _ => by omega)).trans hd) (by omega) (by omega)) ?_
        rintro _ _ ⟨rfl, rfl⟩
        by_cases hmaj : N < t * 2
        · rw [if_pos hmaj]
          refine wp_if_ne (tgt := 138) rfl (by decide) ?_ ?_
          · intro _
            exact done A' d r b e t _ hbN he60 (by omega) hmaj hW (by rw [← he]; exact if_pos hmaj)
          · intro hc
            exact absurd hc (by decide)
        · rw [if_neg hmaj]
          rw [show pGa N (rcB N d0 m) (pv A m) (n + 1) j A' b e t = _ from if_neg hmaj] at he
          refine wp_if_ne (tgt := 138) rfl (by decide) ?_ ?_
          · intro hc
            exact absurd rfl hc
          · intro _
            refine wp_aload_n rfl rfl ?_
            refine wp_iload_n rfl rfl ?_
            refine wp_iload rfl rfl ?_
            refine wp_V2 rfl mX5_gatherMajority_175 (k1) (Nat.le_of_ble_eq_true rfl) (c_reachesP hS hW hd hm hjN) ?_
            rintro _ _ ⟨rfl, ⟨hr, rfl⟩ | ⟨hr, rfl⟩⟩
            · rw [cIf_t hr] at he
              have hjm : m ≠ j := hr.1
              refine wp_if_ne (tgt := 52) rfl (by decide) ?_ ?_
              · intro _
                refine wp_aload_n rfl rfl ?_
                refine wp_V0 rfl mX5_gatherMajority_179 (k1) (Nat.le_of_ble_eq_true rfl) (c_bring hS hW hb) ?_
                rintro _ _ (⟨h0, rfl, rfl⟩ | ⟨h0, rfl, d1, rfl, hW1⟩)
                · rw [if_pos h0] at he
                  refine wp_if_ne (tgt := 61) rfl (by decide) ?_ ?_
                  · intro hc
                    exact absurd rfl hc
                  · intro _
                    refine wp_iconst (v := 0) rfl (by decide) ?_
                    refine wp_ireturn rfl .boolean rfl rfl ?_
                    exact fail A' d r hW he.symm
                · rw [if_neg h0] at he
                  have hb1 : pB (pBr A') + pL (pBr A') < 1000000 := by show pB A' + 1 + (pL A' - 1) < 1000000; omega
                  have hvm : d1 (8 + 30 * m) 4 = nI (pv A m) := by rw [← hpv]; exact (hW1.2.2.2.1 m hm).1
                  refine wp_if_ne (tgt := 61) rfl (by decide) ?_ ?_
                  · intro _
                    refine wp_aload_n rfl rfl ?_
                    refine st_getR rfl fX5_26 rfl (by assumption) (by assumption) ?_
                    refine wp_iload rfl rfl ?_
                    refine st_aald (t0 := 2) rfl (by assumption) rfl rfl (hjN) (by first | decide | omega) ((hmm j hjN).1) ?_
                    refine wp_aload_n rfl rfl ?_
                    refine st_getI rfl fX5_56 rfl (by assumption) (hvm) ?_
                    refine wp_V1 rfl mX5_gatherMajority_182 (kj) (Nat.le_of_ble_eq_true rfl) (c_joinsP hS hW1 hjN (by omega)) ?_
                    have hb2 : pB (pJo (pBr A') j (pv A m)) + pL (pJo (pBr A') j (pv A m)) < 1000000 := by
                      unfold pJo
                      split <;> exact hb1
                    have hpv2 : pv (pJo (pBr A') j (pv A m)) m = pv A m := by
                      unfold pJo
                      split
                      · show hu1 (pv A') j (pv A m) m = _
                        rw [hu1_n hjm]; exact hpv
                      · exact hpv
                    rintro _ _ ⟨d2, rfl, hW2, ⟨hjo, rfl⟩ | ⟨hjo, rfl⟩⟩
                    · rw [if_pos hjo] at he
                      refine wp_if_ne (tgt := 81) rfl (by decide) ?_ ?_
                      · intro _
                        refine wp_aload_n rfl rfl ?_
                        refine wp_V0 rfl mX5_gatherMajority_179 (k1) (Nat.le_of_ble_eq_true rfl) (c_bring hS hW2 hb2) ?_
                        rintro _ _ (⟨h02, rfl, rfl⟩ | ⟨h02, rfl, d3, rfl, hW3⟩)
                        · rw [if_pos h02] at he
                          refine wp_if_ne (tgt := 90) rfl (by decide) ?_ ?_
                          · intro hc
                            exact absurd rfl hc
                          · intro _
                            refine wp_iconst (v := 0) rfl (by decide) ?_
                            refine wp_ireturn rfl .boolean rfl rfl ?_
                            exact fail _ d2 r hW2 he.symm
                        · rw [if_neg h02] at he
                          have hb3 : pB (pBr (pJo (pBr A') j (pv A m))) + pL (pBr (pJo (pBr A') j (pv A m))) < 1000000 := by
                            show pB (pJo (pBr A') j (pv A m)) + 1 + (pL (pJo (pBr A') j (pv A m)) - 1) < 1000000
                            omega
                          have hdj : d3 (8 + 30 * j) 7 = nI (pd (pJo (pBr A') j (pv A m)) j) := (hW3.2.2.2.1 j hjN).2.2.2.1
                          have hdj60 : pd (pJo (pBr A') j (pv A m)) j ≤ 60 := (hW3.2.2.2.1 j hjN).2.2.2.2.2.1
                          refine wp_if_ne (tgt := 90) rfl (by decide) ?_ ?_
                          · intro _
                            refine wp_inc rfl rfl (by decide) ?_
                            refine wp_iload rfl rfl ?_
                            refine wp_aload_n rfl rfl ?_
                            refine st_getR rfl fX5_26 rfl (by assumption) (by assumption) ?_
                            refine wp_iload rfl rfl ?_
                            refine st_aald (t0 := 2) rfl (by assumption) rfl rfl (hjN) (by first | decide | omega) ((hmm j hjN).1) ?_
                            refine st_getI rfl fX5_102 rfl (by assumption) (hdj) ?_
                            refine wp_S2 rfl mX5_gatherMajority_169 (Nat.le_of_ble_eq_true rfl) (c_max) ?_
                            rintro _ _ ⟨rfl, rfl⟩
                            have emx : (if nI e < nI (pd (pJo (pBr A') j (pv A m)) j) then nI (pd (pJo (pBr A') j (pv A m)) j) else nI e) = nI (if e < pd (pJo (pBr A') j (pv A m)) j then pd (pJo (pBr A') j (pv A m)) j else e) := by
                              by_cases hc : e < pd (pJo (pBr A') j (pv A m)) j
                              · rw [if_pos hc, if_pos ((nI_ltI (by omega) (by omega)).mpr hc)]
                              · rw [if_neg hc, if_neg (fun q => hc ((nI_ltI (by omega) (by omega)).mp q))]
                            rw [emx]
                            have he2 : (if e < pd (pJo (pBr A') j (pv A m)) j then pd (pJo (pBr A') j (pv A m)) j else e) ≤ 60 := by
                              split
                              · exact hdj60
                              · exact he60
                            refine wp_istore rfl (by decide) ?_
                            refine wp_aload_n rfl rfl ?_
                            refine st_getR rfl fX5_26 rfl (by assumption) (by assumption) ?_
                            refine wp_iload rfl rfl ?_
                            refine st_aald (t0 := 2) rfl (by assumption) rfl rfl (hjN) (by first | decide | omega) ((hmm j hjN).1) ?_
                            refine wp_aload_n rfl rfl ?_
                            refine wp_V1 rfl mX5_gatherMajority_185 (kj) (Nat.le_of_ble_eq_true rfl) (c_knowsP hS hW3 hjN hbN) ?_
                            rintro _ _ ⟨rfl, ⟨hk, rfl⟩ | ⟨hk, rfl⟩⟩
                            · rw [if_pos (show pn (pJo (pBr A') j (pv A m)) b < pn (pJo (pBr A') j (pv A m)) j ∨ pn (pJo (pBr A') j (pv A m)) j = pn (pJo (pBr A') j (pv A m)) b ∧ pl (pJo (pBr A') j (pv A m)) b < pl (pJo (pBr A') j (pv A m)) j from hk)] at he
                              refine wp_if_eq (tgt := 132) rfl (by decide) ?_ ?_
                              · intro hc
                                exact absurd hc (by decide)
                              · intro _
                                refine wp_aload_n rfl rfl ?_
                                refine st_getR rfl fX5_26 rfl (by assumption) (by assumption) ?_
                                refine wp_iload rfl rfl ?_
                                refine st_aald (t0 := 2) rfl (by assumption) rfl rfl (hjN) (by first | decide | omega) ((hmm j hjN).1) ?_
                                refine wp_astore_n rfl (by decide) ?_
                                refine wp_inc rfl rfl (by decide) ?_
                                refine wp_goto (tgt := 21) rfl (by decide) ?_
                                exact ih (j + 1) (t + 1) j _ _ _ _ (by omega) (by omega) hjN he2 hW3 hpv2 hb3 he
                            · rw [if_neg (show ¬ (pn (pJo (pBr A') j (pv A m)) b < pn (pJo (pBr A') j (pv A m)) j ∨ pn (pJo (pBr A') j (pv A m)) j = pn (pJo (pBr A') j (pv A m)) b ∧ pl (pJo (pBr A') j (pv A m)) b < pl (pJo (pBr A') j (pv A m)) j) from hk)] at he
                              refine wp_if_eq (tgt := 132) rfl (by decide) ?_ ?_
                              · intro _
                                refine wp_inc rfl rfl (by decide) ?_
                                refine wp_goto (tgt := 21) rfl (by decide) ?_
                                exact ih (j + 1) (t + 1) b _ _ _ _ (by omega) (by omega) hbN he2 hW3 hpv2 hb3 he
                              · intro hc
                                exact absurd rfl hc
                          · intro hc
                            exact absurd hc (by decide)
                      · intro hc
                        exact absurd hc (by decide)
                    · rw [if_neg hjo] at he
                      refine wp_if_ne (tgt := 81) rfl (by decide) ?_ ?_
                      · intro hc
                        exact absurd rfl hc
                      · intro _
                        refine wp_goto (tgt := 132) rfl (by decide) ?_
                        refine wp_inc rfl rfl (by decide) ?_
                        refine wp_goto (tgt := 21) rfl (by decide) ?_
                        exact ih (j + 1) t b e _ _ _ (by omega) (by omega) hbN he60 hW2 hpv2 hb2 he
                  · intro hc
                    exact absurd hc (by decide)
              · intro hc
                exact absurd hc (by decide)
            · rw [cIf_f hr] at he
              refine wp_if_ne (tgt := 52) rfl (by decide) ?_ ?_
              · intro hc
                exact absurd rfl hc
              · intro _
                refine wp_goto (tgt := 132) rfl (by decide) ?_
                refine wp_inc rfl rfl (by decide) ?_
                refine wp_goto (tgt := 21) rfl (by decide) ?_
                exact ih (j + 1) t b e _ _ _ (by omega) (by omega) hbN he60 hW hpv hb he
  obtain ⟨hN, k1, a1, a2, a3, k2, k3, b0, b1, k4, k5, k6, hmm⟩ := id (Sh_r hS hW.2.1)
  obtain ⟨c4, c5, c6, c7, e1, e2, e3, e4, e5⟩ := hW.2.2.2.1 m hm
  have km := (hmm m hm).2.1
  refine wp_aload_n rfl rfl ?_
  refine st_getR rfl fX5_26 rfl (by assumption) (by assumption) ?_
  refine wp_iload_n rfl rfl ?_
  refine st_aald (t0 := 2) rfl (by assumption) rfl rfl (hm) (by first | decide | omega) ((hmm m hm).1) ?_
  refine wp_astore_n rfl (by decide) ?_
  refine wp_aload_n rfl rfl ?_
  refine wp_astore_n rfl (by decide) ?_
  refine wp_aload_n rfl rfl ?_
  refine st_getI rfl fX5_102 rfl (by assumption) (c7) ?_
  refine wp_istore rfl (by decide) ?_
  refine wp_iconst (v := 1) rfl (by decide) ?_
  refine wp_istore rfl (by decide) ?_
  refine wp_iconst (v := 0) rfl (by decide) ?_
  refine wp_istore rfl (by decide) ?_
  exact loop N 0 1 m (pd A m) A d r (by omega) (by omega) hm e2 hW rfl hb rfl
theorem i_sub {a b : Int32} (h1 : -2147483648 ≤ a.toInt - b.toInt) (h2 : a.toInt - b.toInt < 2147483648) : (a - b).toInt = a.toInt - b.toInt := by
  rw [Int32.toInt_sub]
  exact Int.bmod_eq_of_le (by omega) (by omega)
theorem i_add {a b : Int32} (h1 : -2147483648 ≤ a.toInt + b.toInt) (h2 : a.toInt + b.toInt < 2147483648) : (a + b).toInt = a.toInt + b.toInt := by
  rw [Int32.toInt_add]
  exact Int.bmod_eq_of_le (by omega) (by omega)
theorem i_mul {a b : Int32} (h1 : -2147483648 ≤ a.toInt * b.toInt) (h2 : a.toInt * b.toInt < 2147483648) : (a * b).toInt = a.toInt * b.toInt := by
  rw [Int32.toInt_mul]
  exact Int.bmod_eq_of_le (by omega) (by omega)
/-- the remainder of a small number, as Java takes it -/
theorem i_rem {x y : Int32} (hy : 0 < y.toInt) (hx1 : -1000000000 < x.toInt) (hx2 : x.toInt < 1000000000) : (x - x / y * y).toInt = x.toInt.tmod y.toInt := by
  have hd : (x / y).toInt = x.toInt.tdiv y.toInt := Int32.toInt_div_of_ne_right x y (fun e => by rw [e] at hy; exact absurd hy (by decide))
  have e1 := Int.tdiv_mul_add_tmod x.toInt y.toInt  
  have hb : (x.toInt.tmod y.toInt).natAbs ≤ x.toInt.natAbs := by
    have := Int.natAbs_tmod x.toInt y.toInt
    rw [this]
    exact Nat.mod_le _ _
  have hm : (x / y * y).toInt = x.toInt.tdiv y.toInt * y.toInt := by
    rw [← hd]
    exact i_mul (by rw [hd]; omega) (by rw [hd]; omega)
  rw [i_sub (by rw [hm]; omega) (by rw [hm]; omega), hm]
  omega
end GATHER
