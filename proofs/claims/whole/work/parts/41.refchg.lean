/-! THE REFERENCE: a change of view -/
def pMs (A : PS) (c : Nat) : PS := (pv A, pn A, pl A, pd A, pg A, c, pB A)
def pVw (A : PS) (m v : Nat) : PS := pSet A m v (pn A m) (pl A m) (pd A m) (pg A m)
/-- a change of view: the numbers behind it, and the answer -/
noncomputable def pCh (N : Nat) (rch : Nat → Prop) (m c : Nat) (A : PS) : PS × Int32 :=
  if (pGl N rch m (pVw (pMs A c) m (nxV N m (pv A m)))).2 = true then (pAn rch m N 0 (pGl N rch m (pVw (pMs A c) m (nxV N m (pv A m)))).1, nI (nxV N m (pv A m))) else ((pGl N rch m (pVw (pMs A c) m (nxV N m (pv A m)))).1, -2)
theorem nxV_mod {N m v : Nat} (hN : N = 3 ∨ N = 5) (hm : m < N) : nxV N m v % N = m := by
  unfold nxV
  rcases hN with rfl | rfl <;> omega
theorem nxV_least {N m v u : Nat} (hN : N = 3 ∨ N = 5) (hm : m < N) (h1 : v + 1 ≤ u) (h2 : u < nxV N m v) : u % N ≠ m := by
  unfold nxV at h2
  rcases hN with rfl | rfl <;> omega
theorem nxV_gt {N m v : Nat} : v < nxV N m v := by unfold nxV; omega
theorem nxV_le {N m v : Nat} (hN : N = 3 ∨ N = 5) : nxV N m v ≤ v + 5 := by
  unfold nxV
  rcases hN with rfl | rfl <;> omega
theorem hu_id {α : Type} {d : Nat → Nat → α} {q j : Nat} {x : α} (h : d q j = x) : hu d q j x = d := by
  funext a b
  simp only [hu]
  split
  · rename_i hc
    rw [hc.1, hc.2, h]
  · rfl
theorem pSet_id (A : PS) (j : Nat) : pSet A j (pv A j) (pn A j) (pl A j) (pd A j) (pg A j) = A := by
  have h : ∀ {α : Type} (f : Nat → α), hu1 f j (f j) = f := fun f => by
    funext i
    simp only [hu1]
    split
    · rename_i e; rw [e]
    · rfl
  simp only [pSet, pv, pn, pl, pd, pg, h]
section REFC
variable {X : hX} {K z : Nat} {kd : Nat → Option hK} {d d0 : Nat → Nat → Int32} {r : Nat → Nat → Option Nat} {N Y m j : Nat} {A : PS} {x y w : Int32}
theorem rW_v {v n e : Nat} {d' : Nat → Nat → Int32} (hW : rW N Y d0 A d) (h5 : N ≤ 5) (hj : j < N) (e1 : d' (Y + 1) j = nI v) (e2 : d' (Y + 2) j = nI n) (e4 : d' (Y + 4) j = nI e) (he : e ≤ 60) (hv : v < 1000000) (hn : n < 1000000) (ed : ∀ q i, ¬ ((q = Y + 1 ∨ q = Y + 2 ∨ q = Y + 4) ∧ i = j) → d' q i = d q i) : rW N Y d0 (pSet A j v n (pl A j) e (pg A j)) d' := by
  obtain ⟨a4, a5, a6, a7, b1, b2, b3, b4, b5⟩ := hW.2.1 j hj
  exact rW_set hW hj h5 e1 e2 ((ed _ _ (by omega)).trans a6) e4 (fun q i h8 h9 => ed q i (by omega)) b1 he hv hn (fun k hk i hi => (ed _ _ (by omega)).trans (b5 k hk i hi))
theorem r_reachesP (hS : rs kd r Y) (hW : rW N Y d0 A d) (h5 : N ≤ 5) (hm : m < N) (hj : j < N) {rch : Nat → Prop} (hr : ∀ j, j < N → (rch j ↔ rcR d0 Y m j)) : Cl X kX6_reaches [.inr (some Y), .inl (nI m), .inl (nI j)] (K, z, kd, d, r) (fun rv M' => M' = (K, z, kd, d, r) ∧ ((rch j ∧ m ≠ j ∧ rv = some (.inl 1)) ∨ (¬ rch j ∧ rv = some (.inl 0)))) := by
  have e5 : ∀ i, d (Y + 5) i = d0 (Y + 5) i := fun i => hW.1 _ _ (by omega) (by omega) (by omega) (by omega) (by omega) (by omega)
  have e6 : ∀ i, d (Y + 6) i = d0 (Y + 6) i := fun i => hW.1 _ _ (by omega) (by omega) (by omega) (by omega) (by omega) (by omega)
  have hiff : rcR d Y m j ↔ rch j := by rw [hr j hj]; simp only [rcR, e5, e6]
  refine (r_reaches hS (by omega) (by omega)).mono ?_
  rintro rv M' ⟨rfl, ⟨h, rfl⟩ | ⟨h, rfl⟩⟩
  · exact ⟨rfl, Or.inl ⟨hiff.mp h, h.1, rfl⟩⟩
  · exact ⟨rfl, Or.inr ⟨fun q => h (hiff.mpr q), rfl⟩⟩
theorem r_change {c : Nat} {rch : Nat → Prop} (hS : rs kd r Y) (hW : rW N Y d A d) (hN : d Y 1 = nI N) (hN3 : N = 3 ∨ N = 5) (hm : m < N) (hc : c ≤ 40) (hdn : d (Y + 5) m = 0) (hb : pB A + 40 < 1000000) (hv : pv A m < 900000) (hr : ∀ j, j < N → (rch j ↔ rcR d Y m j)) : Cl X kX6_change [.inr (some Y), .inl (nI m), .inl (nI c)] (K, z, kd, d, r) (fun rv M' => rv = some (.inl (pCh N rch m c A).2) ∧ ∃ d', M' = (K, z, kd, d', r) ∧ rW N Y d (pCh N rch m c A).1 d') := by
  have h5 : N ≤ 5 := by omega
  obtain ⟨k0, r2, r3, r4, r5, r6, r7, r8, r12, r13, r15, r17, r18, r19, r20, r21, r22, r23, r24, r25, k1, k2, k3, k4, k5, k6, k7, k8, k9, k10, k11, k12, k13, k14, k15, k16, k17, k18, k19, hY⟩ := id hS
  obtain ⟨a4, a5, a6, a7, b1, b2, b3, b4, b5⟩ := hW.2.1 m hm
  refine h_ofWp oX6_change (by decide) (Nat.le_of_ble_eq_true rfl) ?_
  generalize hQ : (fun (rv : Option hV) (M' : hM) => rv = some (.inl (pCh N rch m c A).2) ∧ ∃ d', M' = (K, z, kd, d', r) ∧ rW N Y d (pCh N rch m c A).1 d') = Q
  generalize hvv : nxV N m (pv A m) = v
  have hvl : v < 999999 := by rw [← hvv]; have := nxV_le (m := m) (v := pv A m) hN3; omega
  have frN : ∀ {A' : PS} {d' : Nat → Nat → Int32}, rW N Y d A' d' → d' Y 1 = nI N := fun hW' => (hW'.1 Y 1 (by omega) (by omega) (by omega) (by omega) (by omega) (by omega)).trans hN
  have failQ : ∀ (A' : PS) d', rW N Y d A' d' → pGa N rch v N 0 (pVw (pMs A c) m v) m (pd A m) 1 = (A', none) → Q (some (.inl (-2))) (K, z, kd, d', r) := fun A' d' hW' he => by
    have hvm : pv (pVw (pMs A c) m v) m = v := hu1_s
    have hdm : pd (pVw (pMs A c) m v) m = pd A m := hu1_s
    have hgl : pGl N rch m (pVw (pMs A c) m v) = (A', false) := by rw [pGl, hvm, hdm, he]
    have : pCh N rch m c A = (A', -2) := by rw [pCh, hvv, hgl]; rfl
    rw [← hQ, this]
    exact ⟨rfl, d', rfl, hW'⟩
  -- telling the others
  have second : ∀ (A2 : PS), pv A2 m = v → pCh N rch m c A = (pAn rch m N 0 A2, nI v) → ∀ n j (A' : PS) d' x4 x5 x6 x9, j + n = N → rW N Y d A' d' → pB A' + pL A' < 1000000 → pAn rch m n j A' = pAn rch m N 0 A2 → Wp X kX6_change K z 340 [some (.inr (some Y)), some (.inl (nI m)), some (.inl (nI c)), some (.inl (nI v)), x4, x5, x6, some (.inl 1), some (.inl (nI j)), x9] [] (K, z, kd, d', r) Q := by
    intro A2 hA2 hch n
    induction n with
    | zero =>
      intro j A' d' x4 x5 x6 x9 hj hW' hb' he
      have : j = N := by omega
      subst this
      refine wp_iload rfl rfl ?_
      refine wp_aload_n rfl rfl ?_
      refine st_getI rfl fX6_68 rfl (by assumption) (frN hW') ?_
      refine wp_icmp_ge (tgt := 390) rfl (by decide) ?_ ?_
      · intro _
        refine wp_iload_n rfl rfl ?_
        refine wp_ireturn rfl .int rfl rfl ?_
        rw [← hQ, hch]
        exact ⟨rfl, d', rfl, by rw [← he]; exact hW'⟩
      · intro h
        exact absurd (nI_le (Nat.le_refl _) (by omega)) h
    | succ n ih =>
      intro j A' d' x4 x5 x6 x9 hj hW' hb' he
      have hjN : j < N := by omega
      refine wp_iload rfl rfl ?_
      refine wp_aload_n rfl rfl ?_
      refine st_getI rfl fX6_68 rfl (by assumption) (frN hW') ?_
      refine wp_icmp_ge (tgt := 390) rfl (by decide) ?_ ?_
      · intro h
        exact absurd h (nI_ge hjN (by omega))
      · intro _
        refine wp_iload rfl rfl ?_
        refine wp_if_eq (tgt := 390) rfl (by decide) ?_ ?_
        · intro hcc
          exact absurd hcc (by decide)
        · intro _
          refine wp_aload_n rfl rfl ?_
          refine wp_iload_n rfl rfl ?_
          refine wp_iload rfl rfl ?_
          refine wp_V2 rfl mX6_change_93 (k0) (Nat.le_of_ble_eq_true rfl) (r_reachesP hS hW' h5 hm hjN hr) ?_
          rintro _ _ ⟨rfl, ⟨hrj, hjm, rfl⟩ | ⟨hrj, rfl⟩⟩
          · rw [show pAn rch m (n + 1) j A' = _ from cIf_t hrj] at he
            refine wp_if_eq (tgt := 384) rfl (by decide) ?_ ?_
            · intro hcc
              exact absurd hcc (by decide)
            · intro _
              refine wp_aload_n rfl rfl ?_
              refine wp_V0 rfl mX6_change_97 (k0) (Nat.le_of_ble_eq_true rfl) (r_bring hS hW' hb') ?_
              rintro _ _ (⟨h0, rfl, rfl⟩ | ⟨h0, rfl, d1, rfl, hW1⟩)
              · rw [if_pos h0] at he
                refine wp_istore rfl (by decide) ?_
                refine wp_iload rfl rfl ?_
                refine wp_if_eq (tgt := 384) rfl (by decide) ?_ ?_
                · intro _
                  have endQ : Wp X kX6_change K z 390 [some (.inr (some Y)), some (.inl (nI m)), some (.inl (nI c)), some (.inl (nI v)), x4, x5, x6, some (.inl 0), some (.inl (nI (j + 1))), x9] [] (K, z, kd, d', r) Q := by
                    refine wp_iload_n rfl rfl ?_
                    refine wp_ireturn rfl .int rfl rfl ?_
                    rw [← hQ, hch]
                    exact ⟨rfl, d', rfl, by rw [← he]; exact hW'⟩
                  refine wp_inc rfl rfl (by decide) ?_
                  refine wp_goto (tgt := 340) rfl (by decide) ?_
                  refine wp_iload rfl rfl ?_
                  refine wp_aload_n rfl rfl ?_
                  refine st_getI rfl fX6_68 rfl (by assumption) (frN hW') ?_
                  refine wp_icmp_ge (tgt := 390) rfl (by decide) ?_ ?_
                  · intro _
                    exact endQ
                  · intro _
                    refine wp_iload rfl rfl ?_
                    refine wp_if_eq (tgt := 390) rfl (by decide) ?_ ?_
                    · intro _
                      exact endQ
                    · intro hcc
                      exact absurd rfl hcc
                · intro hcc
                  exact absurd rfl hcc
              · rw [if_neg h0] at he
                have hb1 : pB (pBr A') + pL (pBr A') < 1000000 := by show pB A' + 1 + (pL A' - 1) < 1000000; omega
                refine wp_istore rfl (by decide) ?_
                refine wp_iload rfl rfl ?_
                refine wp_if_eq (tgt := 384) rfl (by decide) ?_ ?_
                · intro hcc
                  exact absurd hcc (by decide)
                · intro _
                  refine wp_aload_n rfl rfl ?_
                  refine wp_iload_n rfl rfl ?_
                  refine wp_iload rfl rfl ?_
                  refine wp_V2 rfl mX6_change_104 (k0) (Nat.le_of_ble_eq_true rfl) (r_takes hS hW1 h5 hm hjN (fun e => hjm e.symm)) ?_
                  rintro _ _ (⟨hvv2, rfl, rfl⟩ | ⟨hvv2, rfl, d2, rfl, hW2⟩)
                  · rw [if_neg hvv2] at he
                    refine wp_istore rfl (by decide) ?_
                    refine wp_inc rfl rfl (by decide) ?_
                    refine wp_goto (tgt := 340) rfl (by decide) ?_
                    exact ih (j + 1) _ _ _ _ _ _ (by omega) hW1 hb1 he
                  · rw [if_pos hvv2] at he
                    refine wp_istore rfl (by decide) ?_
                    refine wp_inc rfl rfl (by decide) ?_
                    refine wp_goto (tgt := 340) rfl (by decide) ?_
                    exact ih (j + 1) _ _ _ _ _ _ (by omega) hW2 hb1 he
          · rw [show pAn rch m (n + 1) j A' = _ from cIf_f hrj] at he
            refine wp_if_eq (tgt := 384) rfl (by decide) ?_ ?_
            · intro _
              refine wp_inc rfl rfl (by decide) ?_
              refine wp_goto (tgt := 340) rfl (by decide) ?_
              exact ih (j + 1) _ _ _ _ _ _ (by omega) hW' hb' he
            · intro hcc
              exact absurd rfl hcc
  -- behind the first round
  have mid : ∀ (A' : PS) d' (b e t : Nat) x7 x8, b < N → e ≤ 60 → t < 100 → N < t * 2 → rW N Y d A' d' → pv A' m = v → pB A' + pL A' < 1000000 → pGa N rch v N 0 (pVw (pMs A c) m v) m (pd A m) 1 = (A', some (b, e)) → Wp X kX6_change K z 292 [some (.inr (some Y)), some (.inl (nI m)), some (.inl (nI c)), some (.inl (nI v)), some (.inl (nI t)), some (.inl (nI b)), some (.inl (nI e)), x7, x8, none] [] (K, z, kd, d', r) Q := by
    intro A' d' b e t x7 x8 hbN he60 ht hmaj hW' hpv hb' heq
    have hvm : pv (pVw (pMs A c) m v) m = v := hu1_s
    have hdm : pd (pVw (pMs A c) m v) m = pd A m := hu1_s
    have hgl : pGl N rch m (pVw (pMs A c) m v) = (pLe A' m b e, true) := by rw [pGl, hvm, hdm, heq]
    have hch : pCh N rch m c A = (pAn rch m N 0 (pLe A' m b e), nI v) := by rw [pCh, hvv, hgl]; rfl
    have h2t : (2 : Int32) * nI t = nI (2 * t) := pk_mul 2 t
    refine wp_iconst (v := 2) rfl (by decide) ?_
    refine wp_iload rfl rfl ?_
    refine wp_imul rfl ?_
    refine wp_aload_n rfl rfl ?_
    refine st_getI rfl fX6_68 rfl (by assumption) (frN hW') ?_
    rw [h2t]
    refine wp_icmp_gt (tgt := 306) rfl (by decide) ?_ ?_
    · intro _
      obtain ⟨c4, c5, c6, c7, e1, e2, e3, e4, e5⟩ := hW'.2.1 m hm
      obtain ⟨c4', c5', c6', c7', e1', e2', e3', e4', e5'⟩ := hW'.2.1 b hbN
      have tail : ∀ d2, (∀ q i, ¬ (q = Y + 3 ∧ i = m) → q ≠ Y + 7 → d2 q i = d' q i) → d2 (Y + 3) m = nI (pl A' b) → (∀ i, d2 (Y + 7) i = if 420 * m ≤ i ∧ i < 420 * m + 7 * pl A' b then d' (Y + 7) (420 * b + (i - 420 * m)) else d' (Y + 7) i) → Wp X kX6_change K z 319 [some (.inr (some Y)), some (.inl (nI m)), some (.inl (nI c)), some (.inl (nI v)), some (.inl (nI t)), some (.inl (nI b)), some (.inl (nI e)), x7, x8, none] [] (K, z, kd, d2, r) Q := by
        intro d2 hf hlen hlg
        have hWL : rW N Y d (pLe A' m b e) (hu (hu d2 (Y + 4) m (nI e)) (Y + 2) m (nI v)) := by
          refine rW_set hW' hm h5 ?_ ?_ ?_ ?_ ?_ e1' he60 (by omega) (by omega) ?_
          · rw [hu_n (by omega), hu_n (by omega), hf _ _ (by omega) (by omega)]; exact c4
          · rw [hu_s, hpv]
          · rw [hu_n (by omega), hu_n (by omega)]; exact hlen
          · rw [hu_n (by omega), hu_s]
          · intro q i h8 h9
            rw [hu_n (by omega), hu_n (by omega)]
            by_cases eq : q = Y + 7
            · subst eq
              rw [hlg, if_neg (by omega)]
            · exact hf q i (by omega) eq
          · intro k hk i hi
            rw [hu_n (by omega), hu_n (by omega), hlg, if_pos (by omega), show 420 * b + (420 * m + 7 * k + i - 420 * m) = 420 * b + 7 * k + i by omega]
            exact e5' k hk i hi
        refine wp_aload_n rfl rfl ?_
        refine st_getR rfl fX6_19 rfl (by assumption) (by assumption) ?_
        refine wp_iload_n rfl rfl ?_
        refine wp_iload rfl rfl ?_
        refine st_iast rfl (by assumption) (by omega) rfl (by omega) (by first | decide | omega) ?_
        refine wp_aload_n rfl rfl ?_
        refine st_getR rfl fX6_13 rfl (by assumption) (by assumption) ?_
        refine wp_iload_n rfl rfl ?_
        refine wp_iload_n rfl rfl ?_
        refine st_iast rfl (by assumption) (by omega) rfl (by omega) (by first | decide | omega) ?_
        refine wp_iconst (v := 1) rfl (by decide) ?_
        refine wp_istore rfl (by decide) ?_
        refine wp_iconst (v := 0) rfl (by decide) ?_
        refine wp_istore rfl (by decide) ?_
        refine second (pLe A' m b e) ?_ hch N 0 (pLe A' m b e) _ _ _ _ _ (by omega) hWL hb' rfl
        show hu1 (pv A') m (pv A' m) m = v
        rw [hu1_s]; exact hpv
      refine wp_iload rfl rfl ?_
      refine wp_iload_n rfl rfl ?_
      refine wp_icmp_eq (tgt := 319) rfl (by decide) ?_ ?_
      · intro h309
        have ebm : b = m := (nI_eq (by omega) (by omega)).mp h309
        subst ebm
        refine tail d' (fun _ _ _ _ => rfl) c6 (fun i => ?_)
        split
        · rw [show 420 * b + (i - 420 * b) = i by omega]
        · rfl
      · intro h309
        have hbm : b ≠ m := fun e => h309 (by rw [e])
        refine wp_aload_n rfl rfl ?_
        refine wp_iload rfl rfl ?_
        refine wp_iload_n rfl rfl ?_
        refine wp_V2 rfl mX6_change_85 (k0) (Nat.le_of_ble_eq_true rfl) (r_copyLog hS (by omega) (by omega) hbm c6' e1') ?_
        rintro _ _ ⟨rfl, rfl⟩
        refine tail _ (fun q i h8 h9 => ?_) hu_s (fun i => ?_)
        · rw [hu_n (by omega), rCp, if_neg (by omega)]
        · rw [hu_n (by omega), rCp]
          by_cases hcc : 420 * m ≤ i ∧ i < 420 * m + 7 * pl A' b
          · rw [if_pos ⟨rfl, hcc⟩, if_pos hcc]
          · rw [if_neg (fun q => hcc q.2), if_neg hcc]
    · intro h
      exact absurd (nI_lt (show N < 2 * t by omega) (by omega)) h
  -- the first round
  have first : ∀ n j t b e (A' : PS) d' x8, j + n = N → t ≤ j + 1 → b < N → e ≤ 60 → rW N Y d A' d' → pv A' m = v → pB A' + pL A' < 1000000 → pGa N rch v n j A' b e t = pGa N rch v N 0 (pVw (pMs A c) m v) m (pd A m) 1 → Wp X kX6_change K z 86 [some (.inr (some Y)), some (.inl (nI m)), some (.inl (nI c)), some (.inl (nI v)), some (.inl (nI t)), some (.inl (nI b)), some (.inl (nI e)), some (.inl (nI j)), x8, none] [] (K, z, kd, d', r) Q := by
    intro n
    induction n with
    | zero =>
      intro j t b e A' d' x8 hj ht hbN he60 hW' hpv hb' he
      have : j = N := by omega
      subst this
      refine wp_iload rfl rfl ?_
      refine wp_aload_n rfl rfl ?_
      refine st_getI rfl fX6_68 rfl (by assumption) (frN hW') ?_
      refine wp_icmp_ge (tgt := 292) rfl (by decide) ?_ ?_
      · intro _
        by_cases hmaj : j < t * 2
        · exact mid A' d' b e t _ _ hbN he60 (by omega) hmaj hW' hpv hb' (by rw [← he]; show (A', if j < t * 2 then some (b, e) else none) = _; rw [if_pos hmaj])
        · have hf : pGa j rch v j 0 (pVw (pMs A c) m v) m (pd A m) 1 = (A', none) := by
            rw [← he]
            show (A', if j < t * 2 then some (b, e) else none) = _
            rw [if_neg hmaj]
          have h2t : (2 : Int32) * nI t = nI (2 * t) := pk_mul 2 t
          refine wp_iconst (v := 2) rfl (by decide) ?_
          refine wp_iload rfl rfl ?_
          refine wp_imul rfl ?_
          refine wp_aload_n rfl rfl ?_
          refine st_getI rfl fX6_68 rfl (by assumption) (frN hW') ?_
          rw [h2t]
          refine wp_icmp_gt (tgt := 306) rfl (by decide) ?_ ?_
          · intro h
            exact absurd ((nI_ltI (by omega) (by omega)).mp h) (by omega)
          · intro _
            refine wp_bipush (v := -2) rfl (by decide) ?_
            refine wp_ireturn rfl .int rfl rfl ?_
            exact failQ A' d' hW' hf
      · intro h
        exact absurd (nI_le (Nat.le_refl _) (by omega)) h
    | succ n ih =>
      intro j t b e A' d' x8 hj ht hbN he60 hW' hpv hb' he
      have hjN : j < N := by omega
      have h2t : (2 : Int32) * nI t = nI (2 * t) := pk_mul 2 t
      refine wp_iload rfl rfl ?_
      refine wp_aload_n rfl rfl ?_
      refine st_getI rfl fX6_68 rfl (by assumption) (frN hW') ?_
      refine wp_icmp_ge (tgt := 292) rfl (by decide) ?_ ?_
      · intro h
        exact absurd h (nI_ge hjN (by omega))
      · intro _
        refine wp_iconst (v := 2) rfl (by decide) ?_
        refine wp_iload rfl rfl ?_
        refine wp_imul rfl ?_
        refine wp_aload_n rfl rfl ?_
        refine st_getI rfl fX6_68 rfl (by assumption) (frN hW') ?_
        rw [h2t]
        refine wp_icmp_gt (tgt := 292) rfl (by decide) ?_ ?_
        · intro h
          have hmaj : N < t * 2 := by have := (nI_ltI (by omega) (by omega)).mp h; omega
          exact mid A' d' b e t _ _ hbN he60 (by omega) hmaj hW' hpv hb' (by rw [← he]; exact if_pos hmaj)
        · intro h
          have hmaj : ¬ N < t * 2 := fun q => h (nI_lt (show N < 2 * t by omega) (by omega))
          rw [show pGa N rch v (n + 1) j A' b e t = _ from if_neg hmaj] at he
          refine wp_aload_n rfl rfl ?_
          refine wp_iload_n rfl rfl ?_
          refine wp_iload rfl rfl ?_
          refine wp_V2 rfl mX6_change_93 (k0) (Nat.le_of_ble_eq_true rfl) (r_reachesP hS hW' h5 hm hjN hr) ?_
          rintro _ _ ⟨rfl, ⟨hrj, hjm, rfl⟩ | ⟨hrj, rfl⟩⟩
          · rw [cIf_t hrj] at he
            refine wp_if_eq (tgt := 286) rfl (by decide) ?_ ?_
            · intro hcc
              exact absurd hcc (by decide)
            · intro _
              refine wp_aload_n rfl rfl ?_
              refine wp_V0 rfl mX6_change_97 (k0) (Nat.le_of_ble_eq_true rfl) (r_bring hS hW' hb') ?_
              rintro _ _ (⟨h0, rfl, rfl⟩ | ⟨h0, rfl, d1, rfl, hW1⟩)
              · rw [if_pos h0] at he
                refine wp_if_ne (tgt := 126) rfl (by decide) ?_ ?_
                · intro hcc
                  exact absurd rfl hcc
                · intro _
                  refine wp_bipush (v := -2) rfl (by decide) ?_
                  refine wp_ireturn rfl .int rfl rfl ?_
                  exact failQ A' d' hW' he.symm
              · rw [if_neg h0] at he
                have hb1 : pB (pBr A') + pL (pBr A') < 1000000 := by show pB A' + 1 + (pL A' - 1) < 1000000; omega
                obtain ⟨c4, c5, c6, c7, e1, e2, e3, e4, e5⟩ := hW1.2.1 j hjN
                have rest : ∀ d2, rW N Y d (pJo (pBr A') j v) d2 → Wp X kX6_change K z 155 [some (.inr (some Y)), some (.inl (nI m)), some (.inl (nI c)), some (.inl (nI v)), some (.inl (nI t)), some (.inl (nI b)), some (.inl (nI e)), some (.inl (nI j)), x8, none] [] (K, z, kd, d2, r) Q := by
                  intro d2 hW2
                  have hb2 : pB (pJo (pBr A') j v) + pL (pJo (pBr A') j v) < 1000000 := by
                    unfold pJo
                    split <;> exact hb1
                  have hpv2 : pv (pJo (pBr A') j v) m = v := by
                    unfold pJo
                    split
                    · show hu1 (pv A') j v m = _
                      rw [hu1_n hjm]; exact hpv
                    · exact hpv
                  obtain ⟨c4, c5, c6, c7, e1, e2, e3, e4, e5⟩ := hW2.2.1 j hjN
                  have skip : ¬ (pv (pJo (pBr A') j v) j = v ∧ ¬ pn (pJo (pBr A') j v) j = pv (pJo (pBr A') j v) j) → Wp X kX6_change K z 286 [some (.inr (some Y)), some (.inl (nI m)), some (.inl (nI c)), some (.inl (nI v)), some (.inl (nI t)), some (.inl (nI b)), some (.inl (nI e)), some (.inl (nI j)), x8, none] [] (K, z, kd, d2, r) Q := by
                    intro hjo
                    rw [if_neg hjo] at he
                    refine wp_inc rfl rfl (by decide) ?_
                    refine wp_goto (tgt := 86) rfl (by decide) ?_
                    exact ih (j + 1) t b e _ _ _ (by omega) (by omega) hbN he60 hW2 hpv2 hb2 he
                  refine wp_aload_n rfl rfl ?_
                  refine st_getR rfl fX6_7 rfl (by assumption) (by assumption) ?_
                  refine wp_iload rfl rfl ?_
                  refine st_iald rfl (by assumption) rfl (by omega) (by first | decide | omega) (c4) ?_
                  refine wp_iload_n rfl rfl ?_
                  refine wp_icmp_ne (tgt := 286) rfl (by decide) ?_ ?_
                  · intro h163
                    exact skip (fun q => h163 (by rw [q.1]))
                  · intro h163
                    have hjv : pv (pJo (pBr A') j v) j = v := (nI_eq (by omega) (by omega)).mp h163
                    refine wp_aload_n rfl rfl ?_
                    refine wp_iload rfl rfl ?_
                    refine wp_V1 rfl mX6_change_101 (k0) (Nat.le_of_ble_eq_true rfl) (r_isNormal hS (by omega)) ?_
                    rintro _ _ ⟨rfl, rfl⟩
                    by_cases hnn : d2 (Y + 1) j = d2 (Y + 2) j
                    · rw [bI, if_pos hnn]
                      refine wp_if_ne (tgt := 286) rfl (by decide) ?_ ?_
                      · intro _
                        refine skip (fun q => q.2 ?_)
                        rw [c4, c5] at hnn
                        exact ((nI_eq (by omega) (by omega)).mp hnn).symm
                      · intro hcc
                        exact absurd hcc (by decide)
                    · rw [bI, if_neg hnn]
                      have hjo : pv (pJo (pBr A') j v) j = v ∧ ¬ pn (pJo (pBr A') j v) j = pv (pJo (pBr A') j v) j := ⟨hjv, fun q => hnn (by rw [c4, c5, q])⟩
                      rw [if_pos hjo] at he
                      refine wp_if_ne (tgt := 286) rfl (by decide) ?_ ?_
                      · intro hcc
                        exact absurd rfl hcc
                      · intro _
                        refine wp_aload_n rfl rfl ?_
                        refine wp_V0 rfl mX6_change_97 (k0) (Nat.le_of_ble_eq_true rfl) (r_bring hS hW2 hb2) ?_
                        rintro _ _ (⟨h02, rfl, rfl⟩ | ⟨h02, rfl, d3, rfl, hW3⟩)
                        · rw [if_pos h02] at he
                          refine wp_if_ne (tgt := 185) rfl (by decide) ?_ ?_
                          · intro hcc
                            exact absurd rfl hcc
                          · intro _
                            refine wp_bipush (v := -2) rfl (by decide) ?_
                            refine wp_ireturn rfl .int rfl rfl ?_
                            exact failQ _ d2 hW2 he.symm
                        · rw [if_neg h02] at he
                          have hb3 : pB (pBr (pJo (pBr A') j v)) + pL (pBr (pJo (pBr A') j v)) < 1000000 := by
                            show pB (pJo (pBr A') j v) + 1 + (pL (pJo (pBr A') j v) - 1) < 1000000
                            omega
                          obtain ⟨f4, f5, f6, f7, g1, g2, g3, g4, g5⟩ := hW3.2.1 j hjN
                          obtain ⟨p4, p5, p6, p7, q1, q2, q3, q4, q5⟩ := hW3.2.1 b hbN
                          have F5 : d3 (Y + 2) j = nI (pn (pJo (pBr A') j v) j) := f5
                          have F6 : d3 (Y + 3) j = nI (pl (pJo (pBr A') j v) j) := f6
                          have F7 : d3 (Y + 4) j = nI (pd (pJo (pBr A') j v) j) := f7
                          have P5 : d3 (Y + 2) b = nI (pn (pJo (pBr A') j v) b) := p5
                          have P6 : d3 (Y + 3) b = nI (pl (pJo (pBr A') j v) b) := p6
                          have G1 : pl (pJo (pBr A') j v) j ≤ 60 := g1
                          have G2 : pd (pJo (pBr A') j v) j ≤ 60 := g2
                          have G4 : pn (pJo (pBr A') j v) j < 1000000 := g4
                          have Q1 : pl (pJo (pBr A') j v) b ≤ 60 := q1
                          have Q4 : pn (pJo (pBr A') j v) b < 1000000 := q4
                          -- with the best known, the number of orders done
                          have most : ∀ b2 x8, b2 < N → pGa N rch v n (j + 1) (pBr (pJo (pBr A') j v)) b2 (if e < pd (pJo (pBr A') j v) j then pd (pJo (pBr A') j v) j else e) (t + 1) = pGa N rch v N 0 (pVw (pMs A c) m v) m (pd A m) 1 → Wp X kX6_change K z 260 [some (.inr (some Y)), some (.inl (nI m)), some (.inl (nI c)), some (.inl (nI v)), some (.inl (nI (t + 1))), some (.inl (nI b2)), some (.inl (nI e)), some (.inl (nI j)), x8, none] [] (K, z, kd, d3, r) Q := by
                            intro b2 x8 hb2N he2
                            refine wp_aload_n rfl rfl ?_
                            refine st_getR rfl fX6_19 rfl (by assumption) (by assumption) ?_
                            refine wp_iload rfl rfl ?_
                            refine st_iald rfl (by assumption) rfl (by omega) (by first | decide | omega) (F7) ?_
                            refine wp_iload rfl rfl ?_
                            refine wp_icmp_le (tgt := 282) rfl (by decide) ?_ ?_
                            · intro h269
                              rw [if_neg (by have := (nI_leI (by omega) (by omega)).mp h269; omega)] at he2
                              refine wp_iload rfl rfl ?_
                              refine wp_istore rfl (by decide) ?_
                              refine wp_inc rfl rfl (by decide) ?_
                              refine wp_goto (tgt := 86) rfl (by decide) ?_
                              exact ih (j + 1) (t + 1) b2 e _ _ _ (by omega) (by omega) hb2N he60 hW3 hpv2 hb3 he2
                            · intro h269
                              rw [if_pos (by
                                rcases Nat.lt_or_ge e (pd (pJo (pBr A') j v) j) with q | q
                                · exact q
                                · exact absurd (nI_le q (by omega)) h269)] at he2
                              refine wp_aload_n rfl rfl ?_
                              refine st_getR rfl fX6_19 rfl (by assumption) (by assumption) ?_
                              refine wp_iload rfl rfl ?_
                              refine st_iald rfl (by assumption) rfl (by omega) (by first | decide | omega) (F7) ?_
                              refine wp_goto (tgt := 284) rfl (by decide) ?_
                              refine wp_istore rfl (by decide) ?_
                              refine wp_inc rfl rfl (by decide) ?_
                              refine wp_goto (tgt := 86) rfl (by decide) ?_
                              exact ih (j + 1) (t + 1) b2 _ _ _ _ (by omega) (by omega) hb2N G2 hW3 hpv2 hb3 he2
                          have yes : (pn (pJo (pBr A') j v) b < pn (pJo (pBr A') j v) j ∨ pn (pJo (pBr A') j v) j = pn (pJo (pBr A') j v) b ∧ pl (pJo (pBr A') j v) b < pl (pJo (pBr A') j v) j) → Wp X kX6_change K z 239 [some (.inr (some Y)), some (.inl (nI m)), some (.inl (nI c)), some (.inl (nI v)), some (.inl (nI (t + 1))), some (.inl (nI b)), some (.inl (nI e)), some (.inl (nI j)), x8, none] [] (K, z, kd, d3, r) Q := by
                            intro hbt
                            rw [if_pos hbt] at he
                            refine wp_iconst (v := 1) rfl (by decide) ?_
                            refine wp_goto (tgt := 244) rfl (by decide) ?_
                            refine wp_istore rfl (by decide) ?_
                            refine wp_iload rfl rfl ?_
                            refine wp_if_eq (tgt := 256) rfl (by decide) ?_ ?_
                            · intro hcc
                              exact absurd hcc (by decide)
                            · intro _
                              refine wp_iload rfl rfl ?_
                              refine wp_goto (tgt := 258) rfl (by decide) ?_
                              refine wp_istore rfl (by decide) ?_
                              exact most j _ hjN he
                          have noo : ¬ (pn (pJo (pBr A') j v) b < pn (pJo (pBr A') j v) j ∨ pn (pJo (pBr A') j v) j = pn (pJo (pBr A') j v) b ∧ pl (pJo (pBr A') j v) b < pl (pJo (pBr A') j v) j) → Wp X kX6_change K z 243 [some (.inr (some Y)), some (.inl (nI m)), some (.inl (nI c)), some (.inl (nI v)), some (.inl (nI (t + 1))), some (.inl (nI b)), some (.inl (nI e)), some (.inl (nI j)), x8, none] [] (K, z, kd, d3, r) Q := by
                            intro hbt
                            rw [if_neg hbt] at he
                            refine wp_iconst (v := 0) rfl (by decide) ?_
                            refine wp_istore rfl (by decide) ?_
                            refine wp_iload rfl rfl ?_
                            refine wp_if_eq (tgt := 256) rfl (by decide) ?_ ?_
                            · intro _
                              refine wp_iload rfl rfl ?_
                              refine wp_istore rfl (by decide) ?_
                              exact most b _ hbN he
                            · intro hcc
                              exact absurd rfl hcc
                          refine wp_if_ne (tgt := 185) rfl (by decide) ?_ ?_
                          · intro _
                            refine wp_inc rfl rfl (by decide) ?_
                            refine wp_aload_n rfl rfl ?_
                            refine st_getR rfl fX6_13 rfl (by assumption) (by assumption) ?_
                            refine wp_iload rfl rfl ?_
                            refine st_iald rfl (by assumption) rfl (by omega) (by first | decide | omega) (F5) ?_
                            refine wp_aload_n rfl rfl ?_
                            refine st_getR rfl fX6_13 rfl (by assumption) (by assumption) ?_
                            refine wp_iload rfl rfl ?_
                            refine st_iald rfl (by assumption) rfl (by omega) (by first | decide | omega) (P5) ?_
                            refine wp_icmp_gt (tgt := 239) rfl (by decide) ?_ ?_
                            · intro h202
                              exact yes (Or.inl ((nI_ltI (by omega) (by omega)).mp h202))
                            · intro h202
                              have hle : ¬ pn (pJo (pBr A') j v) b < pn (pJo (pBr A') j v) j := fun q => h202 (nI_lt q (by omega))
                              refine wp_aload_n rfl rfl ?_
                              refine st_getR rfl fX6_13 rfl (by assumption) (by assumption) ?_
                              refine wp_iload rfl rfl ?_
                              refine st_iald rfl (by assumption) rfl (by omega) (by first | decide | omega) (F5) ?_
                              refine wp_aload_n rfl rfl ?_
                              refine st_getR rfl fX6_13 rfl (by assumption) (by assumption) ?_
                              refine wp_iload rfl rfl ?_
                              refine st_iald rfl (by assumption) rfl (by omega) (by first | decide | omega) (P5) ?_
                              refine wp_icmp_ne (tgt := 243) rfl (by decide) ?_ ?_
                              · intro h219
                                exact noo (fun q => q.elim hle (fun q => h219 (by rw [q.1])))
                              · intro h219
                                have heq : pn (pJo (pBr A') j v) j = pn (pJo (pBr A') j v) b := (nI_eq (by omega) (by omega)).mp h219
                                refine wp_aload_n rfl rfl ?_
                                refine st_getR rfl fX6_16 rfl (by assumption) (by assumption) ?_
                                refine wp_iload rfl rfl ?_
                                refine st_iald rfl (by assumption) rfl (by omega) (by first | decide | omega) (F6) ?_
                                refine wp_aload_n rfl rfl ?_
                                refine st_getR rfl fX6_16 rfl (by assumption) (by assumption) ?_
                                refine wp_iload rfl rfl ?_
                                refine st_iald rfl (by assumption) rfl (by omega) (by first | decide | omega) (P6) ?_
                                refine wp_icmp_le (tgt := 243) rfl (by decide) ?_ ?_
                                · intro h236
                                  exact noo (fun q => q.elim hle (fun q => by have := (nI_leI (by omega) (by omega)).mp h236; omega))
                                · intro h236
                                  refine yes (Or.inr ⟨heq, ?_⟩)
                                  rcases Nat.lt_or_ge (pl (pJo (pBr A') j v) b) (pl (pJo (pBr A') j v) j) with q | q
                                  · exact q
                                  · exact absurd (nI_le q (by omega)) h236
                          · intro hcc
                            exact absurd hcc (by decide)
                refine wp_if_ne (tgt := 126) rfl (by decide) ?_ ?_
                · intro _
                  refine wp_aload_n rfl rfl ?_
                  refine st_getR rfl fX6_7 rfl (by assumption) (by assumption) ?_
                  refine wp_iload rfl rfl ?_
                  refine wp_aload_n rfl rfl ?_
                  refine st_getR rfl fX6_7 rfl (by assumption) (by assumption) ?_
                  refine wp_iload rfl rfl ?_
                  refine st_iald rfl (by assumption) rfl (by omega) (by first | decide | omega) (c4) ?_
                  refine wp_iload_n rfl rfl ?_
                  refine wp_icmp_ge (tgt := 147) rfl (by decide) ?_ ?_
                  · intro h140
                    have hnl : ¬ pv (pBr A') j < v := by have := (nI_leI (by omega) (by omega)).mp h140; omega
                    refine wp_aload_n rfl rfl ?_
                    refine st_getR rfl fX6_7 rfl (by assumption) (by assumption) ?_
                    refine wp_iload rfl rfl ?_
                    refine st_iald rfl (by assumption) rfl (by omega) (by first | decide | omega) (c4) ?_
                    refine st_iast rfl (by assumption) (by omega) rfl (by omega) (by first | decide | omega) ?_
                    rw [hu_id c4]
                    refine rest _ ?_
                    rw [pJo, if_neg hnl]
                    exact hW1
                  · intro h140
                    have hnl : pv (pBr A') j < v := by
                      rcases Nat.lt_or_ge (pv (pBr A') j) v with q | q
                      · exact q
                      · exact absurd (nI_le q (by omega)) h140
                    refine wp_iload_n rfl rfl ?_
                    refine wp_goto (tgt := 154) rfl (by decide) ?_
                    refine st_iast rfl (by assumption) (by omega) rfl (by omega) (by first | decide | omega) ?_
                    refine rest _ ?_
                    rw [pJo, if_pos hnl]
                    exact rW_v hW1 h5 hjN hu_s ((hu_n (by omega)).trans c5) ((hu_n (by omega)).trans c7) e2 (by omega) e4 (fun q i hq => hu_n (by omega))
                · intro hcc
                  exact absurd hcc (by decide)
          · rw [cIf_f hrj] at he
            refine wp_if_eq (tgt := 286) rfl (by decide) ?_ ?_
            · intro _
              refine wp_inc rfl rfl (by decide) ?_
              refine wp_goto (tgt := 86) rfl (by decide) ?_
              exact ih (j + 1) t b e _ _ _ (by omega) (by omega) hbN he60 hW' hpv hb' he
            · intro hcc
              exact absurd rfl hcc
  -- the view
  have hW1 : rW N Y d (pMs A c) (hu d Y 9 (nI c)) := by
    obtain ⟨h1, h4, h5, h6, h7, h8⟩ := hW
    refine ⟨fun q i a b c e f g => by rw [hu_n (by omega)], fun i hi => ?_, by rw [hu_s]; rfl, by rw [hu_n (by omega)]; exact h6, by show c ≤ 40; exact hc, h8⟩
    obtain ⟨a4, a5, a6, a7, b1, b2, b3, b4, b5⟩ := h4 i hi
    exact ⟨by rw [hu_n (by omega)]; exact a4, by rw [hu_n (by omega)]; exact a5, by rw [hu_n (by omega)]; exact a6, by rw [hu_n (by omega)]; exact a7, b1, b2, b3, b4, fun k hk x hx => by rw [hu_n (by omega)]; exact b5 k hk x hx⟩
  have seek : ∀ n u, u + n = v → pv A m + 1 ≤ u → Wp X kX6_change K z 46 [some (.inr (some Y)), some (.inl (nI m)), some (.inl (nI c)), some (.inl (nI u)), none, none, none, none, none, none] [] (K, z, kd, hu d Y 9 (nI c), r) Q := by
    have hrem : ∀ u, u < 1000000 → nI u - nI u / nI N * nI N = nI (u % N) := fun u hq => pk_rem (by omega) (by omega) (by omega)
    have hN0 : ¬ nI N = 0 := nI_ne0 (by omega) (by omega)
    intro n
    induction n with
    | zero =>
      intro u hun hge
      have : u = v := by omega
      subst this
      refine wp_iload_n rfl rfl ?_
      refine wp_aload_n rfl rfl ?_
      refine st_getI rfl fX6_68 rfl (by assumption) (frN hW1) ?_
      refine wp_irem rfl (hN0) ?_
      rw [hrem u (by omega)]
      refine wp_iload_n rfl rfl ?_
      refine wp_icmp_eq (tgt := 62) rfl (by decide) ?_ ?_
      · intro _
        refine wp_aload_n rfl rfl ?_
        refine st_getR rfl fX6_7 rfl (by assumption) (by assumption) ?_
        refine wp_iload_n rfl rfl ?_
        refine wp_iload_n rfl rfl ?_
        refine st_iast rfl (by assumption) (by omega) rfl (by omega) (by first | decide | omega) ?_
        refine wp_iconst (v := 1) rfl (by decide) ?_
        refine wp_istore rfl (by decide) ?_
        refine wp_iload_n rfl rfl ?_
        refine wp_istore rfl (by decide) ?_
        refine wp_aload_n rfl rfl ?_
        refine st_getR rfl fX6_19 rfl (by assumption) (by assumption) ?_
        refine wp_iload_n rfl rfl ?_
        refine st_iald rfl (by assumption) rfl (by omega) (by first | decide | omega) (((hu_n (by omega)).trans ((hu_n (by omega)).trans a7))) ?_
        refine wp_istore rfl (by decide) ?_
        refine wp_iconst (v := 0) rfl (by decide) ?_
        refine wp_istore rfl (by decide) ?_
        have hW2 : rW N Y d (pVw (pMs A c) m u) (hu (hu d Y 9 (nI c)) (Y + 1) m (nI u)) :=
          rW_v hW1 h5 hm hu_s (by rw [hu_n (by omega), hu_n (by omega)]; exact a5) (by rw [hu_n (by omega), hu_n (by omega)]; exact a7) b2 (by omega) b4 (fun q i hq => hu_n (by omega))
        exact first N 0 1 m (pd A m) _ _ _ (by omega) (by omega) hm b2 hW2 hu1_s (by show pB A + c < 1000000; omega) rfl
      · intro h
        exact absurd (by rw [← hvv, nxV_mod hN3 hm]) h
    | succ n ih =>
      intro u hun hge
      refine wp_iload_n rfl rfl ?_
      refine wp_aload_n rfl rfl ?_
      refine st_getI rfl fX6_68 rfl (by assumption) (frN hW1) ?_
      refine wp_irem rfl (hN0) ?_
      rw [hrem u (by omega)]
      refine wp_iload_n rfl rfl ?_
      refine wp_icmp_eq (tgt := 62) rfl (by decide) ?_ ?_
      · intro h
        have hml := Nat.mod_lt u (show 0 < N by omega)
        exact absurd ((nI_eq (by omega) (by omega)).mp h) (nxV_least hN3 hm hge (by omega))
      · intro _
        refine wp_inc rfl rfl (by decide) ?_
        refine wp_goto (tgt := 46) rfl (by decide) ?_
        exact ih (u + 1) (by omega) (by omega)
  refine wp_aload_n rfl rfl ?_
  refine wp_iload_n rfl rfl ?_
  refine wp_V1 rfl mX6_change_75 (k0) (Nat.le_of_ble_eq_true rfl) (r_no k0 hN h5) ?_
  rintro rv M' ⟨rfl, ⟨i, hi, ei, rfl⟩ | ⟨h, -⟩⟩
  · refine wp_if_ne (tgt := 18) rfl (by decide) ?_ ?_
    · intro hcc
      exact absurd rfl hcc
    · intro _
      refine wp_iload_n rfl rfl ?_
      refine wp_iconst (v := 0) rfl (by decide) ?_
      refine wp_bipush (v := 40) rfl (by decide) ?_
      refine wp_S3 rfl mX6_change_89 (Nat.le_of_ble_eq_true rfl) (c_isIn) ?_
      rintro _ _ ⟨rfl, rfl⟩
      rw [if_pos ⟨nI_pos' (by omega), (by rw [i_le, i_nI (by omega), show (40 : Int32).toInt = 40 by decide]; omega)⟩]
      refine wp_if_ne (tgt := 20) rfl (by decide) ?_ ?_
      · intro _
        refine wp_aload_n rfl rfl ?_
        refine st_getR rfl fX6_22 rfl (by assumption) (by assumption) ?_
        refine wp_iload_n rfl rfl ?_
        refine st_zald rfl (by assumption) rfl (by omega) (by first | decide | omega) (hdn) ?_
        refine wp_if_eq (tgt := 32) rfl (by decide) ?_ ?_
        · intro _
          refine wp_aload_n rfl rfl ?_
          refine wp_iload_n rfl rfl ?_
          refine st_putI rfl fX6_79 rfl rfl ⟨rfl, rfl⟩ (by assumption) ?_
          refine wp_aload_n rfl rfl ?_
          refine st_getR rfl fX6_7 rfl (by assumption) (by assumption) ?_
          refine wp_iload_n rfl rfl ?_
          refine st_iald rfl (by assumption) rfl (by omega) (by first | decide | omega) ((hu_n (by omega)).trans a4) ?_
          refine wp_iconst (v := 1) rfl (by decide) ?_
          refine wp_iadd rfl ?_
          refine wp_istore_n rfl (by decide) ?_
          rw [nI_1]
          refine seek (v - (pv A m + 1)) (pv A m + 1) ?_ (Nat.le_refl _)
          have := nxV_gt (N := N) (m := m) (v := pv A m)
          omega
        · intro hcc
          exact absurd rfl hcc
      · intro hcc
        exact absurd hcc (by decide)
  · exact absurd rfl (h m hm)
end REFC
