/-! THE REFERENCE: order -/
/-- seven numbers -/
def o7 (a b c e f g h : Int32) : Nat → Int32 := fun j => match j with | 0 => a | 1 => b | 2 => c | 3 => e | 4 => f | 5 => g | _ => h
/-- an order is put behind the log of m, and told -/
noncomputable def pOr (N : Nat) (rch : Nat → Prop) (m c : Nat) (o : Nat → Int32) (A : PS) : PS := pSp N rch m N 0 (pMs (pAp A m o) c) 1
section RORD2
variable {X : hX} {K z : Nat} {kd : Nat → Option hK} {d d0 : Nat → Nat → Int32} {r : Nat → Nat → Option Nat} {N Y m j : Nat} {A : PS} {x y w : Int32}
/-- the order is put into the reference's log -/
theorem rW_ap {c : Nat} {d' : Nat → Nat → Int32} {o : Nat → Int32} (h5 : N ≤ 5) (hm : m < N) (hc : c ≤ 40) (hW : rW N Y d A d) (hl : pl A m < 60) (e3 : d' (Y + 3) m = nI (pl A m + 1)) (e7 : ∀ i, i < 7 → d' (Y + 7) (420 * m + 7 * pl A m + i) = o i) (e9 : d' Y 9 = nI c) (ed : ∀ q i, ¬ (q = Y + 3 ∧ i = m) → ¬ (q = Y + 7 ∧ 420 * m + 7 * pl A m ≤ i ∧ i < 420 * m + 7 * pl A m + 7) → ¬ (q = Y ∧ i = 9) → d' q i = d q i) : rW N Y d (pMs (pAp A m o) c) d' := by
  obtain ⟨h1, h4, h9, h10, h11, h12⟩ := hW
  refine ⟨fun q i a1 a2 a3 a4 a5 a6 => ed q i (by omega) (by omega) (by omega), fun i hi => ?_, e9, (ed Y 10 (by omega) (by omega) (by omega)).trans h10, hc, h12⟩
  obtain ⟨b1, b2, b3, b4, c1, c2, c3, c4, c5⟩ := h4 i hi
  by_cases e : i = m
  · subst e
    show d' (Y + 1) i = nI (hu1 (pv A) i (pv A i) i) ∧ d' (Y + 2) i = nI (hu1 (pn A) i (pn A i) i) ∧ d' (Y + 3) i = nI (hu1 (pl A) i (pl A i + 1) i) ∧ d' (Y + 4) i = nI (hu1 (pd A) i (pd A i) i) ∧ hu1 (pl A) i (pl A i + 1) i ≤ 60 ∧ hu1 (pd A) i (pd A i) i ≤ 60 ∧ hu1 (pv A) i (pv A i) i < 1000000 ∧ hu1 (pn A) i (pn A i) i < 1000000 ∧ ∀ k, k < hu1 (pl A) i (pl A i + 1) i → ∀ j, j < 7 → d' (Y + 7) (420 * i + 7 * k + j) = hu1 (pg A) i (fun k => if k = pl A i then o else pg A i k) i k j
    simp only [hu1_s]
    refine ⟨(ed _ _ (by omega) (by omega) (by omega)).trans b1, (ed _ _ (by omega) (by omega) (by omega)).trans b2, e3, (ed _ _ (by omega) (by omega) (by omega)).trans b4, by omega, c2, c3, c4, fun k hk j hj => ?_⟩
    by_cases ek : k = pl A i
    · subst ek
      rw [if_pos rfl]
      exact e7 j hj
    · rw [if_neg ek]
      exact (ed _ _ (by omega) (by omega) (by omega)).trans (c5 k (by omega) j hj)
  · show d' (Y + 1) i = nI (hu1 (pv A) m (pv A m) i) ∧ d' (Y + 2) i = nI (hu1 (pn A) m (pn A m) i) ∧ d' (Y + 3) i = nI (hu1 (pl A) m (pl A m + 1) i) ∧ d' (Y + 4) i = nI (hu1 (pd A) m (pd A m) i) ∧ hu1 (pl A) m (pl A m + 1) i ≤ 60 ∧ hu1 (pd A) m (pd A m) i ≤ 60 ∧ hu1 (pv A) m (pv A m) i < 1000000 ∧ hu1 (pn A) m (pn A m) i < 1000000 ∧ ∀ k, k < hu1 (pl A) m (pl A m + 1) i → ∀ j, j < 7 → d' (Y + 7) (420 * i + 7 * k + j) = hu1 (pg A) m (fun k => if k = pl A m then o else pg A m k) i k j
    simp only [hu1_n e]
    exact ⟨(ed _ _ (by omega) (by omega) (by omega)).trans b1, (ed _ _ (by omega) (by omega) (by omega)).trans b2, (ed _ _ (by omega) (by omega) (by omega)).trans b3, (ed _ _ (by omega) (by omega) (by omega)).trans b4, c1, c2, c3, c4, fun k hk j hj => (ed _ _ (by omega) (by omega) (by omega)).trans (c5 k hk j hj)⟩
theorem pMs_self (A : PS) : pMs A (pL A) = A := rfl
theorem rW_do (h5 : N ≤ 5) (hm : m < N) (hW : rW N Y d0 A d) : rW N Y d0 (pDo A m) (hu d (Y + 4) m (nI (pl A m))) := by
  obtain ⟨b1, b2, b3, b4, c1, c2, c3, c4, c5⟩ := hW.2.1 m hm
  exact rW_v hW h5 hm (by rw [hu_n (by omega)]; exact b1) (by rw [hu_n (by omega)]; exact b2) hu_s c1 c3 c4 (fun q i hq => hu_n (by omega))
set_option maxRecDepth 10000 in
theorem r_order {c an : Nat} {rch : Nat → Prop} {cl nu ki a b e f : Int32} (hS : rs kd r Y) (hW : rW N Y d A d) (hN : d Y 1 = nI N) (hN3 : N = 3 ∨ N = 5) (hm : m < N) (hc : c ≤ 40) (hcl : inR cl 0 4) (hnu : inR nu 1 1001) (hdn : d (Y + 5) m = 0) (hnm : pv A m = pn A m) (hld : pv A m % N = m) (hb : pB A + 40 < 1000000) (hdl : pd A m ≤ pl A m) (han : d Y 11 = nI an) (hanb : an < 4000) (hr : ∀ j, j < N → (rch j ↔ rcR d Y m j)) :
    Cl X kX6_order [.inr (some Y), .inl (nI m), .inl cl, .inl nu, .inl ki, .inl a, .inl b, .inl e, .inl f, .inl (nI c)] (K, z, kd, d, r) (fun rv M' =>
      (∃ k, k < pd A m ∧ mtc (pg A m) cl nu k ∧ (∀ k', k' < k → ¬ mtc (pg A m) cl nu k') ∧ rv = some (.inl (anS (pg A m) k)) ∧ ∃ d1, rFr Y d d1 ∧ M' = (K, z, kd, rGv d1 Y an cl nu (anS (pg A m) k), r)) ∨
      ((∀ k, k < pd A m → ¬ mtc (pg A m) cl nu k) ∧ ((∃ k, k < pl A m ∧ ltr (pg A m) cl nu k) ∨ pl A m = 60) ∧ rv = some (.inl (-3)) ∧ M' = (K, z, kd, d, r)) ∨
      ((∀ k, k < pl A m → ¬ ltr (pg A m) cl nu k) ∧ pl A m < 60 ∧ ∃ d1, rW N Y d (pOr N rch m c (o7 cl nu ki a b e f) A) d1 ∧
        ((pd (pOr N rch m c (o7 cl nu ki a b e f) A) m = pl (pOr N rch m c (o7 cl nu ki a b e f) A) m ∧ rv = some (.inl (anL (pg (pOr N rch m c (o7 cl nu ki a b e f) A) m) (pl (pOr N rch m c (o7 cl nu ki a b e f) A) m))) ∧ ∃ d2, rFr Y d1 d2 ∧ M' = (K, z, kd, rGv d2 Y an cl nu (anL (pg (pOr N rch m c (o7 cl nu ki a b e f) A) m) (pl (pOr N rch m c (o7 cl nu ki a b e f) A) m)), r)) ∨
         (pd (pOr N rch m c (o7 cl nu ki a b e f) A) m ≠ pl (pOr N rch m c (o7 cl nu ki a b e f) A) m ∧ rv = some (.inl (-2)) ∧ M' = (K, z, kd, d1, r))))) := by
  obtain ⟨k0, r2, r3, r4, r5, r6, r7, r8, r12, r13, r15, r17, r18, r19, r20, r21, r22, r23, r24, r25, k1, k2, k3, k4, k5, k6, k7, k8, k9, k10, k11, k12, k13, k14, k15, k16, k17, k18, k19, hY⟩ := id hS
  have h5 : N ≤ 5 := by omega
  obtain ⟨v1, v2, v3, v4, l60, e60, vb, nb, hlg⟩ := hW.2.1 m hm
  refine h_ofWp oX6_order (by decide) (Nat.le_of_ble_eq_true rfl) ?_
  generalize hQ : (fun (rv : Option hV) (M' : hM) =>
      (∃ k, k < pd A m ∧ mtc (pg A m) cl nu k ∧ (∀ k', k' < k → ¬ mtc (pg A m) cl nu k') ∧ rv = some (.inl (anS (pg A m) k)) ∧ ∃ d1, rFr Y d d1 ∧ M' = (K, z, kd, rGv d1 Y an cl nu (anS (pg A m) k), r)) ∨
      ((∀ k, k < pd A m → ¬ mtc (pg A m) cl nu k) ∧ ((∃ k, k < pl A m ∧ ltr (pg A m) cl nu k) ∨ pl A m = 60) ∧ rv = some (.inl (-3)) ∧ M' = (K, z, kd, d, r)) ∨
      ((∀ k, k < pl A m → ¬ ltr (pg A m) cl nu k) ∧ pl A m < 60 ∧ ∃ d1, rW N Y d (pOr N rch m c (o7 cl nu ki a b e f) A) d1 ∧
        ((pd (pOr N rch m c (o7 cl nu ki a b e f) A) m = pl (pOr N rch m c (o7 cl nu ki a b e f) A) m ∧ rv = some (.inl (anL (pg (pOr N rch m c (o7 cl nu ki a b e f) A) m) (pl (pOr N rch m c (o7 cl nu ki a b e f) A) m))) ∧ ∃ d2, rFr Y d1 d2 ∧ M' = (K, z, kd, rGv d2 Y an cl nu (anL (pg (pOr N rch m c (o7 cl nu ki a b e f) A) m) (pl (pOr N rch m c (o7 cl nu ki a b e f) A) m)), r)) ∨
         (pd (pOr N rch m c (o7 cl nu ki a b e f) A) m ≠ pl (pOr N rch m c (o7 cl nu ki a b e f) A) m ∧ rv = some (.inl (-2)) ∧ M' = (K, z, kd, d1, r))))) = Q
  generalize hOR : pOr N rch m c (o7 cl nu ki a b e f) A = B at hQ
  have frN : ∀ {A' d'}, rW N Y d A' d' → d' Y 1 = nI N := fun h => (h.1 _ _ (by omega) (by omega) (by omega) (by omega) (by omega) (by omega)).trans hN
  have fr11 : ∀ {A' d'}, rW N Y d A' d' → d' Y 11 = nI an := fun h => (h.1 _ _ (by omega) (by omega) (by omega) (by omega) (by omega) (by omega)).trans han
  -- the end
  have fin : (∀ k, k < pl A m → ¬ ltr (pg A m) cl nu k) → pl A m < 60 → ∀ d' x10 x11 x12 x13 x14, rW N Y d B d' → Wp X kX6_order K z 439 [some (.inr (some Y)), some (.inl (nI m)), some (.inl cl), some (.inl nu), some (.inl ki), some (.inl a), some (.inl b), some (.inl e), some (.inl f), some (.inl (nI c)), x10, x11, x12, x13, x14] [] (K, z, kd, d', r) Q := by
    intro g1 g2 d' x10 x11 x12 x13 x14 hW'
    obtain ⟨w1, w2, w3, w4, wl, we, wv, wn, wg⟩ := hW'.2.1 m hm
    refine wp_aload_n rfl rfl ?_
    refine st_getR rfl fX6_19 rfl (by assumption) (by assumption) ?_
    refine wp_iload_n rfl rfl ?_
    refine st_iald rfl (by assumption) rfl (by omega) (by first | decide | omega) (w4) ?_
    refine wp_aload_n rfl rfl ?_
    refine st_getR rfl fX6_16 rfl (by assumption) (by assumption) ?_
    refine wp_iload_n rfl rfl ?_
    refine st_iald rfl (by assumption) rfl (by omega) (by first | decide | omega) (w3) ?_
    refine wp_icmp_ne (tgt := 474) rfl (by decide) ?_ ?_
    · intro h
      refine wp_bipush (v := -2) rfl (by decide) ?_
      refine wp_ireturn rfl .int rfl rfl ?_
      rw [← hQ]
      exact Or.inr (Or.inr ⟨g1, g2, d', hW', Or.inr ⟨fun q => h (by rw [q]), rfl, rfl⟩⟩)
    · intro h
      have he : pd B m = pl B m := (nI_eq (by omega) (by omega)).mp h
      refine wp_aload_n rfl rfl ?_
      refine wp_iload_n rfl rfl ?_
      refine wp_iload_n rfl rfl ?_
      refine wp_aload_n rfl rfl ?_
      refine wp_iload_n rfl rfl ?_
      refine wp_aload_n rfl rfl ?_
      refine st_getR rfl fX6_16 rfl (by assumption) (by assumption) ?_
      refine wp_iload_n rfl rfl ?_
      refine st_iald rfl (by assumption) rfl (by omega) (by first | decide | omega) (w3) ?_
      refine wp_V2 rfl mX6_order_107 (k0) (Nat.le_of_ble_eq_true rfl) (r_replay hS (by omega) wl wg) ?_
      rintro _ _ ⟨rfl, d2, rfl, hf2, hR2⟩
      refine wp_V3 rfl mX6_order_111 (k0) (Nat.le_of_ble_eq_true rfl) (r_give hS ((hf2 _ _ (by omega) (by omega)).trans (fr11 hW')) hanb) ?_
      rintro _ _ ⟨rfl, rfl⟩
      refine wp_goto (tgt := 476) rfl (by decide) ?_
      refine wp_ireturn rfl .int rfl rfl ?_
      rw [← hQ]
      exact Or.inr (Or.inr ⟨g1, g2, d', hW', Or.inl ⟨he, rfl, d2, hf2, rfl⟩⟩)
  -- telling the others
  have tell : (∀ k, k < pl A m → ¬ ltr (pg A m) cl nu k) → pl A m < 60 → ∀ n j (A' : PS) t d' x10 x11, j + n = N → rW N Y d A' d' → pB A' + pL A' < 1000000 → 1 ≤ t → t ≤ 10 → t + n ≤ 10 → (N < t * 2 → pd A' m = pl A' m) → pSp N rch m n j A' t = B → Wp X kX6_order K z 334 [some (.inr (some Y)), some (.inl (nI m)), some (.inl cl), some (.inl nu), some (.inl ki), some (.inl a), some (.inl b), some (.inl e), some (.inl f), some (.inl (nI c)), x10, x11, some (.inl (nI t)), some (.inl 1), some (.inl (nI j))] [] (K, z, kd, d', r) Q := by
    intro g1 g2 n
    induction n with
    | zero =>
      intro j A' t d' x10 x11 hj hW' hb' ht1 ht2 ht3 htd he
      have he' : A' = B := he
      subst he'
      refine wp_iload rfl rfl ?_
      refine wp_aload_n rfl rfl ?_
      refine st_getI rfl fX6_68 rfl (by assumption) (frN hW') ?_
      refine wp_icmp_ge (tgt := 439) rfl (by decide) ?_ ?_
      · intro _
        exact fin g1 g2 d' _ _ _ _ _ hW'
      · intro h
        exact absurd (nI_le (by omega) (by omega)) h
    | succ n ih =>
      intro j A' t d' x10 x11 hj hW' hb' ht1 ht2 ht3 htd he
      have hjN : j < N := by omega
      have stop : ∀ d2 x12 x14, rW N Y d B d2 → Wp X kX6_order K z 334 [some (.inr (some Y)), some (.inl (nI m)), some (.inl cl), some (.inl nu), some (.inl ki), some (.inl a), some (.inl b), some (.inl e), some (.inl f), some (.inl (nI c)), x10, x11, x12, some (.inl 0), some (.inl x14)] [] (K, z, kd, d2, r) Q := by
        intro d2 x12 x14 hW2
        refine wp_iload rfl rfl ?_
        refine wp_aload_n rfl rfl ?_
        refine st_getI rfl fX6_68 rfl (by assumption) (frN hW2) ?_
        refine wp_icmp_ge (tgt := 439) rfl (by decide) ?_ ?_
        · intro _
          exact fin g1 g2 d2 _ _ _ _ _ hW2
        · intro _
          refine wp_iload rfl rfl ?_
          refine wp_if_eq (tgt := 439) rfl (by decide) ?_ ?_
          · intro _
            exact fin g1 g2 d2 _ _ _ _ _ hW2
          · intro h
            exact absurd rfl h
      refine wp_iload rfl rfl ?_
      refine wp_aload_n rfl rfl ?_
      refine st_getI rfl fX6_68 rfl (by assumption) (frN hW') ?_
      refine wp_icmp_ge (tgt := 439) rfl (by decide) ?_ ?_
      · intro h
        exact absurd h (nI_ge hjN (by omega))
      · intro _
        refine wp_iload rfl rfl ?_
        refine wp_if_eq (tgt := 439) rfl (by decide) ?_ ?_
        · intro h
          exact absurd h (by decide)
        · intro _
          refine wp_aload_n rfl rfl ?_
          refine wp_iload_n rfl rfl ?_
          refine wp_iload rfl rfl ?_
          refine wp_V2 rfl mX6_order_93 (k0) (Nat.le_of_ble_eq_true rfl) (r_reachesP hS hW' h5 hm hjN hr) ?_
          rintro _ _ ⟨rfl, ⟨hrj, hjm, rfl⟩ | ⟨hrj, rfl⟩⟩
          · rw [show pSp N rch m (n + 1) j A' t = _ from cIf_t hrj] at he
            refine wp_if_eq (tgt := 433) rfl (by decide) ?_ ?_
            · intro h
              exact absurd h (by decide)
            · intro _
              refine wp_aload_n rfl rfl ?_
              refine wp_V0 rfl mX6_order_97 (k0) (Nat.le_of_ble_eq_true rfl) (r_bring hS hW' hb') ?_
              rintro _ _ (⟨h0, rfl, rfl⟩ | ⟨h0, rfl, d1, rfl, hW1⟩)
              · rw [if_pos h0] at he
                subst he
                refine wp_istore rfl (by decide) ?_
                refine wp_iload rfl rfl ?_
                refine wp_if_eq (tgt := 433) rfl (by decide) ?_ ?_
                · intro _
                  refine wp_inc rfl rfl (by decide) ?_
                  refine wp_goto (tgt := 334) rfl (by decide) ?_
                  exact stop d' _ _ hW'
                · intro h
                  exact absurd rfl h
              · rw [if_neg h0] at he
                have hb1 : pB (pBr A') + pL (pBr A') < 1000000 := by show pB A' + 1 + (pL A' - 1) < 1000000; omega
                refine wp_istore rfl (by decide) ?_
                refine wp_iload rfl rfl ?_
                refine wp_if_eq (tgt := 433) rfl (by decide) ?_ ?_
                · intro h
                  exact absurd h (by decide)
                · intro _
                  refine wp_aload_n rfl rfl ?_
                  refine wp_iload_n rfl rfl ?_
                  refine wp_iload rfl rfl ?_
                  refine wp_V2 rfl mX6_order_104 (k0) (Nat.le_of_ble_eq_true rfl) (r_takes hS hW1 h5 hm hjN (fun e => hjm e.symm)) ?_
                  rintro _ _ (⟨hvv, rfl, rfl⟩ | ⟨hvv, rfl, d2, rfl, hW2⟩)
                  · rw [if_neg hvv] at he
                    refine wp_if_eq (tgt := 433) rfl (by decide) ?_ ?_
                    · intro _
                      refine wp_inc rfl rfl (by decide) ?_
                      refine wp_goto (tgt := 334) rfl (by decide) ?_
                      exact ih (j + 1) _ t _ _ _ (by omega) hW1 hb1 ht1 ht2 (by omega) htd he
                    · intro h
                      exact absurd rfl h
                  · rw [if_pos hvv] at he
                    have hb2 : pB (pFo (pBr A') m j) + pL (pFo (pBr A') m j) < 1000000 := hb1
                    obtain ⟨w1, w2, w3, w4, wl, we, wv, wn, wg⟩ := hW2.2.1 m hm
                    have fm : ∀ t', (N < t' * 2 → pd A' m = pl A' m) → N < t' * 2 → pd (pFo (pBr A') m j) m = pl (pFo (pBr A') m j) m := fun t' h1 h2 => by
                      show hu1 (pd A') j _ m = hu1 (pl A') j _ m
                      rw [hu1_n hjm, hu1_n hjm]
                      exact h1 h2
                    refine wp_if_eq (tgt := 433) rfl (by decide) ?_ ?_
                    · intro h
                      exact absurd h (by decide)
                    · intro _
                      refine wp_aload_n rfl rfl ?_
                      refine wp_V0 rfl mX6_order_97 (k0) (Nat.le_of_ble_eq_true rfl) (r_bring hS hW2 hb2) ?_
                      rintro _ _ (⟨h00, rfl, rfl⟩ | ⟨h00, rfl, d3, rfl, hW3⟩)
                      · rw [if_pos h00] at he
                        subst he
                        have i2 : (2 : Int32) * nI t = nI (2 * t) := pk_mul 2 t
                        refine wp_istore rfl (by decide) ?_
                        refine wp_iload rfl rfl ?_
                        refine wp_if_eq (tgt := 397) rfl (by decide) ?_ ?_
                        · intro _
                          refine wp_iload rfl rfl ?_
                          refine wp_istore rfl (by decide) ?_
                          refine wp_aload_n rfl rfl ?_
                          refine st_getR rfl fX6_19 rfl (by assumption) (by assumption) ?_
                          refine wp_iload_n rfl rfl ?_
                          refine wp_iconst (v := 2) rfl (by decide) ?_
                          refine wp_iload rfl rfl ?_
                          refine wp_imul rfl ?_
                          rw [i2]
                          refine wp_aload_n rfl rfl ?_
                          refine st_getI rfl fX6_68 rfl (by assumption) (frN hW2) ?_
                          refine wp_icmp_le (tgt := 426) rfl (by decide) ?_ ?_
                          · intro _
                            refine wp_aload_n rfl rfl ?_
                            refine st_getR rfl fX6_19 rfl (by assumption) (by assumption) ?_
                            refine wp_iload_n rfl rfl ?_
                            refine st_iald rfl (by assumption) rfl (by omega) (by first | decide | omega) rfl ?_
                            refine st_iast rfl (by assumption) (by omega) rfl (by omega) (by first | decide | omega) ?_
                            refine wp_inc rfl rfl (by decide) ?_
                            refine wp_goto (tgt := 334) rfl (by decide) ?_
                            rw [hu_id rfl]
                            exact stop d2 _ _ hW2
                          · intro h414
                            have hmaj : N < t * 2 := by
                              rcases Nat.lt_or_ge N (t * 2) with q | q
                              · exact q
                              · exact absurd (nI_le (show 2 * t ≤ N by omega) (by omega)) h414
                            have hpd := fm t htd hmaj
                            refine wp_aload_n rfl rfl ?_
                            refine st_getR rfl fX6_16 rfl (by assumption) (by assumption) ?_
                            refine wp_iload_n rfl rfl ?_
                            refine st_iald rfl (by assumption) rfl (by omega) (by first | decide | omega) (w3) ?_
                            refine wp_goto (tgt := 432) rfl (by decide) ?_
                            refine st_iast rfl (by assumption) (by omega) rfl (by omega) (by first | decide | omega) ?_
                            refine wp_inc rfl rfl (by decide) ?_
                            refine wp_goto (tgt := 334) rfl (by decide) ?_
                            rw [hu_id (show d2 (Y + 4) m = nI (pl (pFo (pBr A') m j) m) by rw [← hpd]; exact w4)]
                            exact stop d2 _ _ hW2
                        · intro h
                          exact absurd rfl h
                      · rw [if_neg h00] at he
                        obtain ⟨u1, u2, u3, u4, ul, ue, uv, un, ug⟩ := hW3.2.1 m hm
                        have hb3 : pB (pBr (pFo (pBr A') m j)) + pL (pBr (pFo (pBr A') m j)) < 1000000 := by
                          show pB (pFo (pBr A') m j) + 1 + (pL (pFo (pBr A') m j) - 1) < 1000000
                          omega
                        have i2 : (2 : Int32) * nI (t + 1) = nI (2 * (t + 1)) := pk_mul 2 (t + 1)
                        refine wp_istore rfl (by decide) ?_
                        refine wp_iload rfl rfl ?_
                        refine wp_if_eq (tgt := 397) rfl (by decide) ?_ ?_
                        · intro h
                          exact absurd h (by decide)
                        · intro _
                          refine wp_iload rfl rfl ?_
                          refine wp_iconst (v := 1) rfl (by decide) ?_
                          refine wp_iadd rfl ?_
                          refine wp_goto (tgt := 399) rfl (by decide) ?_
                          rw [nI_1]
                          refine wp_istore rfl (by decide) ?_
                          refine wp_aload_n rfl rfl ?_
                          refine st_getR rfl fX6_19 rfl (by assumption) (by assumption) ?_
                          refine wp_iload_n rfl rfl ?_
                          refine wp_iconst (v := 2) rfl (by decide) ?_
                          refine wp_iload rfl rfl ?_
                          refine wp_imul rfl ?_
                          rw [i2]
                          refine wp_aload_n rfl rfl ?_
                          refine st_getI rfl fX6_68 rfl (by assumption) (frN hW3) ?_
                          refine wp_icmp_le (tgt := 426) rfl (by decide) ?_ ?_
                          · intro h414
                            have hmaj : ¬ N < (t + 1) * 2 := by
                              have := (nI_leI (by omega) (by omega)).mp h414
                              omega
                            rw [if_neg hmaj] at he
                            refine wp_aload_n rfl rfl ?_
                            refine st_getR rfl fX6_19 rfl (by assumption) (by assumption) ?_
                            refine wp_iload_n rfl rfl ?_
                            refine st_iald rfl (by assumption) rfl (by omega) (by first | decide | omega) rfl ?_
                            refine st_iast rfl (by assumption) (by omega) rfl (by omega) (by first | decide | omega) ?_
                            refine wp_inc rfl rfl (by decide) ?_
                            refine wp_goto (tgt := 334) rfl (by decide) ?_
                            rw [hu_id rfl]
                            exact ih (j + 1) _ (t + 1) d3 _ _ (by omega) hW3 hb3 (by omega) (by omega) (by omega) (fun q => absurd q hmaj) he
                          · intro h414
                            have hmaj : N < (t + 1) * 2 := by
                              rcases Nat.lt_or_ge N ((t + 1) * 2) with q | q
                              · exact q
                              · exact absurd (nI_le (show 2 * (t + 1) ≤ N by omega) (by omega)) h414
                            rw [if_pos hmaj] at he
                            refine wp_aload_n rfl rfl ?_
                            refine st_getR rfl fX6_16 rfl (by assumption) (by assumption) ?_
                            refine wp_iload_n rfl rfl ?_
                            refine st_iald rfl (by assumption) rfl (by omega) (by first | decide | omega) (u3) ?_
                            refine wp_goto (tgt := 432) rfl (by decide) ?_
                            refine st_iast rfl (by assumption) (by omega) rfl (by omega) (by first | decide | omega) ?_
                            refine wp_inc rfl rfl (by decide) ?_
                            refine wp_goto (tgt := 334) rfl (by decide) ?_
                            refine ih (j + 1) _ (t + 1) _ _ _ (by omega) (rW_do h5 hm hW3) hb3 (by omega) (by omega) (by omega) (fun _ => ?_) he
                            show hu1 _ m _ m = hu1 _ m _ m
                            rw [hu1_s, hu1_s]
          · rw [show pSp N rch m (n + 1) j A' t = _ from cIf_f hrj] at he
            refine wp_if_eq (tgt := 433) rfl (by decide) ?_ ?_
            · intro _
              refine wp_inc rfl rfl (by decide) ?_
              refine wp_goto (tgt := 334) rfl (by decide) ?_
              exact ih (j + 1) A' t d' _ _ (by omega) hW' hb' ht1 ht2 (by omega) htd he
            · intro h
              exact absurd rfl h
  have hlate : ∀ k, k < pl A m → (ltr (pg A m) cl nu k ↔ (pg A m k 0 = cl ∧ nu ≤ pg A m k 1)) := fun k _ => Iff.rfl
  -- the order is new
  have put : (∀ k, k < pl A m → ¬ ltr (pg A m) cl nu k) → pl A m < 60 → ∀ x11 x12, Wp X kX6_order K z 218 [some (.inr (some Y)), some (.inl (nI m)), some (.inl cl), some (.inl nu), some (.inl ki), some (.inl a), some (.inl b), some (.inl e), some (.inl f), some (.inl (nI c)), some (.inl 0), x11, x12, none, none] [] (K, z, kd, d, r) Q := by
    intro g1 g2 x11 x12
    have hix : (420 : Int32) * nI m + 7 * nI (pl A m) = nI (420 * m + 7 * pl A m) := by
      have a1 : (420 : Int32) * nI m = nI (420 * m) := pk_mul 420 m
      have a2 : (7 : Int32) * nI (pl A m) = nI (7 * pl A m) := pk_mul 7 (pl A m)
      rw [a1, a2, nI_add]
    refine wp_sipush (v := 420) rfl (by decide) ?_
    refine wp_iload_n rfl rfl ?_
    refine wp_imul rfl ?_
    refine wp_bipush (v := 7) rfl (by decide) ?_
    refine wp_aload_n rfl rfl ?_
    refine st_getR rfl fX6_16 rfl (by assumption) (by assumption) ?_
    refine wp_iload_n rfl rfl ?_
    refine st_iald rfl (by assumption) rfl (by omega) (by first | decide | omega) (v3) ?_
    refine wp_imul rfl ?_
    refine wp_iadd rfl ?_
    rw [hix]
    refine wp_istore rfl (by decide) ?_
    refine wp_aload_n rfl rfl ?_
    refine st_getR rfl fX6_29 rfl (by assumption) (by assumption) ?_
    refine wp_iload rfl rfl ?_
    refine wp_iload_n rfl rfl ?_
    refine st_iast rfl (by assumption) (by omega) rfl (by omega) (by first | decide | omega) ?_
    refine wp_aload_n rfl rfl ?_
    refine st_getR rfl fX6_29 rfl (by assumption) (by assumption) ?_
    refine wp_iload rfl rfl ?_
    refine wp_iconst (v := 1) rfl (by decide) ?_
    refine wp_iadd rfl ?_
    refine wp_iload_n rfl rfl ?_
    refine st_iast rfl (by assumption) (by omega) (nI_add _ 1) (by omega) (by first | decide | omega) ?_
    refine wp_aload_n rfl rfl ?_
    refine st_getR rfl fX6_29 rfl (by assumption) (by assumption) ?_
    refine wp_iload rfl rfl ?_
    refine wp_iconst (v := 2) rfl (by decide) ?_
    refine wp_iadd rfl ?_
    refine wp_iload rfl rfl ?_
    refine st_iast rfl (by assumption) (by omega) (nI_add _ 2) (by omega) (by first | decide | omega) ?_
    refine wp_aload_n rfl rfl ?_
    refine st_getR rfl fX6_29 rfl (by assumption) (by assumption) ?_
    refine wp_iload rfl rfl ?_
    refine wp_iconst (v := 3) rfl (by decide) ?_
    refine wp_iadd rfl ?_
    refine wp_iload rfl rfl ?_
    refine st_iast rfl (by assumption) (by omega) (nI_add _ 3) (by omega) (by first | decide | omega) ?_
    refine wp_aload_n rfl rfl ?_
    refine st_getR rfl fX6_29 rfl (by assumption) (by assumption) ?_
    refine wp_iload rfl rfl ?_
    refine wp_iconst (v := 4) rfl (by decide) ?_
    refine wp_iadd rfl ?_
    refine wp_iload rfl rfl ?_
    refine st_iast rfl (by assumption) (by omega) (nI_add _ 4) (by omega) (by first | decide | omega) ?_
    refine wp_aload_n rfl rfl ?_
    refine st_getR rfl fX6_29 rfl (by assumption) (by assumption) ?_
    refine wp_iload rfl rfl ?_
    refine wp_iconst (v := 5) rfl (by decide) ?_
    refine wp_iadd rfl ?_
    refine wp_iload rfl rfl ?_
    refine st_iast rfl (by assumption) (by omega) (nI_add _ 5) (by omega) (by first | decide | omega) ?_
    refine wp_aload_n rfl rfl ?_
    refine st_getR rfl fX6_29 rfl (by assumption) (by assumption) ?_
    refine wp_iload rfl rfl ?_
    refine wp_bipush (v := 6) rfl (by decide) ?_
    refine wp_iadd rfl ?_
    refine wp_iload rfl rfl ?_
    refine st_iast rfl (by assumption) (by omega) (nI_add _ 6) (by omega) (by first | decide | omega) ?_
    refine wp_aload_n rfl rfl ?_
    refine st_getR rfl fX6_16 rfl (by assumption) (by assumption) ?_
    refine wp_iload_n rfl rfl ?_
    refine wp_dup2 rfl ?_
    refine st_iald rfl (by assumption) rfl (by omega) (by first | decide | omega) (((hu_n (by omega)).trans ((hu_n (by omega)).trans ((hu_n (by omega)).trans ((hu_n (by omega)).trans ((hu_n (by omega)).trans ((hu_n (by omega)).trans ((hu_n (by omega)).trans v3)))))))) ?_
    refine wp_iconst (v := 1) rfl (by decide) ?_
    refine wp_iadd rfl ?_
    refine st_iast rfl (by assumption) (by omega) rfl (by omega) (by first | decide | omega) ?_
    refine wp_aload_n rfl rfl ?_
    refine wp_iload rfl rfl ?_
    refine st_putI rfl fX6_79 rfl rfl ⟨rfl, rfl⟩ (by assumption) ?_
    refine wp_iconst (v := 1) rfl (by decide) ?_
    refine wp_istore rfl (by decide) ?_
    refine wp_iconst (v := 1) rfl (by decide) ?_
    refine wp_istore rfl (by decide) ?_
    refine wp_iconst (v := 0) rfl (by decide) ?_
    refine wp_istore rfl (by decide) ?_
    rw [nI_1]
    refine tell g1 g2 N 0 (pMs (pAp A m (o7 cl nu ki a b e f)) c) 1 _ _ _ (by omega) (rW_ap h5 hm hc hW g2 ?_ ?_ ?_ ?_) ?_ (by omega) (by omega) (by omega) (fun q => absurd q (by omega)) hOR
    · rw [hu_n (by omega), hu_s]
    · intro i hi
      rcases (show i = 0 ∨ i = 1 ∨ i = 2 ∨ i = 3 ∨ i = 4 ∨ i = 5 ∨ i = 6 by omega) with rfl | rfl | rfl | rfl | rfl | rfl | rfl
      · rw [hu_n (by omega), hu_n (by omega), hu_n (by omega), hu_n (by omega), hu_n (by omega), hu_n (by omega), hu_n (by omega), hu_n (by omega)]; exact hu_s
      · rw [hu_n (by omega), hu_n (by omega), hu_n (by omega), hu_n (by omega), hu_n (by omega), hu_n (by omega), hu_n (by omega), hu_s]; rfl
      · rw [hu_n (by omega), hu_n (by omega), hu_n (by omega), hu_n (by omega), hu_n (by omega), hu_n (by omega), hu_s]; rfl
      · rw [hu_n (by omega), hu_n (by omega), hu_n (by omega), hu_n (by omega), hu_n (by omega), hu_s]; rfl
      · rw [hu_n (by omega), hu_n (by omega), hu_n (by omega), hu_n (by omega), hu_s]; rfl
      · rw [hu_n (by omega), hu_n (by omega), hu_n (by omega), hu_s]; rfl
      · rw [hu_n (by omega), hu_n (by omega), hu_s]; rfl
    · rw [hu_s]
    · intro q i h1 h2 h3
      rw [hu_n (by omega), hu_n (by omega), hu_n (by omega), hu_n (by omega), hu_n (by omega), hu_n (by omega), hu_n (by omega), hu_n (by omega), hu_n (by omega)]
    · show pB A + c < 1000000
      omega
  -- the scan
  have scan : ∀ n k v x12, k + n = pl A m → (∀ k', k' < k → k' < pd A m → ¬ mtc (pg A m) cl nu k') → ((v = 0 ∧ ∀ k', k' < k → ¬ ltr (pg A m) cl nu k') ∨ (v = 1 ∧ ∃ k', k' < k ∧ ltr (pg A m) cl nu k')) → Wp X kX6_order K z 82 [some (.inr (some Y)), some (.inl (nI m)), some (.inl cl), some (.inl nu), some (.inl ki), some (.inl a), some (.inl b), some (.inl e), some (.inl f), some (.inl (nI c)), some (.inl v), some (.inl (nI k)), x12, none, none] [] (K, z, kd, d, r) Q := by
    intro n
    induction n with
    | zero =>
      intro k v x12 hk hno hv
      have : k = pl A m := by omega
      subst this
      have late : ((∃ k, k < pl A m ∧ ltr (pg A m) cl nu k) ∨ pl A m = 60) → ∀ x11, Wp X kX6_order K z 215 [some (.inr (some Y)), some (.inl (nI m)), some (.inl cl), some (.inl nu), some (.inl ki), some (.inl a), some (.inl b), some (.inl e), some (.inl f), some (.inl (nI c)), some (.inl v), x11, x12, none, none] [] (K, z, kd, d, r) Q := by
        intro h x11
        refine wp_bipush (v := -3) rfl (by decide) ?_
        refine wp_ireturn rfl .int rfl rfl ?_
        rw [← hQ]
        exact Or.inr (Or.inl ⟨fun k hk => hno k (by omega) hk, h, rfl, rfl⟩)
      refine wp_iload rfl rfl ?_
      refine wp_aload_n rfl rfl ?_
      refine st_getR rfl fX6_16 rfl (by assumption) (by assumption) ?_
      refine wp_iload_n rfl rfl ?_
      refine st_iald rfl (by assumption) rfl (by omega) (by first | decide | omega) (v3) ?_
      refine wp_icmp_ge (tgt := 199) rfl (by decide) ?_ ?_
      · intro _
        rcases hv with ⟨rfl, h1⟩ | ⟨rfl, h1⟩
        · refine wp_iload rfl rfl ?_
          refine wp_if_ne (tgt := 215) rfl (by decide) ?_ ?_
          · intro h
            exact absurd rfl h
          · intro _
            refine wp_aload_n rfl rfl ?_
            refine st_getR rfl fX6_16 rfl (by assumption) (by assumption) ?_
            refine wp_iload_n rfl rfl ?_
            refine st_iald rfl (by assumption) rfl (by omega) (by first | decide | omega) (v3) ?_
            refine wp_bipush (v := 60) rfl (by decide) ?_
            refine wp_icmp_ne (tgt := 218) rfl (by decide) ?_ ?_
            · intro h
              exact put h1 (by
                rcases Nat.lt_or_ge (pl A m) 60 with q | q
                · exact q
                · exact absurd (show nI (pl A m) = 60 by rw [show pl A m = 60 by omega]; rfl) h) _ _
            · intro h
              exact late (Or.inr ((nI_eq (b := 60) (by omega) (by omega)).mp h)) _
        · refine wp_iload rfl rfl ?_
          refine wp_if_ne (tgt := 215) rfl (by decide) ?_ ?_
          · intro _
            exact late (Or.inl h1) _
          · intro h
            exact absurd h (by decide)
      · intro h
        exact absurd (nI_le (by omega) (by omega)) h
    | succ n ih =>
      intro k v x12 hk hno hv
      have hkl : k < pl A m := by omega
      have hix : (420 : Int32) * nI m + 7 * nI k = nI (420 * m + 7 * k) := by
        have a1 : (420 : Int32) * nI m = nI (420 * m) := pk_mul 420 m
        have a2 : (7 : Int32) * nI k = nI (7 * k) := pk_mul 7 k
        rw [a1, a2, nI_add]
      have l0 : d (Y + 7) (420 * m + 7 * k) = pg A m k 0 := hlg k hkl 0 (by omega)
      have l1 : d (Y + 7) (420 * m + 7 * k + 1) = pg A m k 1 := hlg k hkl 1 (by omega)
      -- not found here
      have next : (k < pd A m → ¬ mtc (pg A m) cl nu k) → Wp X kX6_order K z 157 [some (.inr (some Y)), some (.inl (nI m)), some (.inl cl), some (.inl nu), some (.inl ki), some (.inl a), some (.inl b), some (.inl e), some (.inl f), some (.inl (nI c)), some (.inl v), some (.inl (nI k)), some (.inl (nI (420 * m + 7 * k))), none, none] [] (K, z, kd, d, r) Q := by
        intro hnk
        have hno' : ∀ k', k' < k + 1 → k' < pd A m → ¬ mtc (pg A m) cl nu k' := fun k' h1 h2 => by
          by_cases ek : k' = k
          · subst ek; exact hnk h2
          · exact hno k' (by omega) h2
        have one : (∃ k', k' < k + 1 ∧ ltr (pg A m) cl nu k') → Wp X kX6_order K z 186 [some (.inr (some Y)), some (.inl (nI m)), some (.inl cl), some (.inl nu), some (.inl ki), some (.inl a), some (.inl b), some (.inl e), some (.inl f), some (.inl (nI c)), some (.inl v), some (.inl (nI k)), some (.inl (nI (420 * m + 7 * k))), none, none] [] (K, z, kd, d, r) Q := by
          intro h
          refine wp_iconst (v := 1) rfl (by decide) ?_
          refine wp_goto (tgt := 191) rfl (by decide) ?_
          refine wp_istore rfl (by decide) ?_
          refine wp_inc rfl rfl (by decide) ?_
          refine wp_goto (tgt := 82) rfl (by decide) ?_
          exact ih (k + 1) 1 _ (by omega) hno' (Or.inr ⟨rfl, h⟩)
        have zero : (∀ k', k' < k + 1 → ¬ ltr (pg A m) cl nu k') → Wp X kX6_order K z 190 [some (.inr (some Y)), some (.inl (nI m)), some (.inl cl), some (.inl nu), some (.inl ki), some (.inl a), some (.inl b), some (.inl e), some (.inl f), some (.inl (nI c)), some (.inl v), some (.inl (nI k)), some (.inl (nI (420 * m + 7 * k))), none, none] [] (K, z, kd, d, r) Q := by
          intro h
          refine wp_iconst (v := 0) rfl (by decide) ?_
          refine wp_istore rfl (by decide) ?_
          refine wp_inc rfl rfl (by decide) ?_
          refine wp_goto (tgt := 82) rfl (by decide) ?_
          exact ih (k + 1) 0 _ (by omega) hno' (Or.inl ⟨rfl, h⟩)
        rcases hv with ⟨rfl, h1⟩ | ⟨rfl, k', h1, h2⟩
        · have h1' : ¬ ltr (pg A m) cl nu k → ∀ k', k' < k + 1 → ¬ ltr (pg A m) cl nu k' := fun q k' hk' => by
            by_cases ek : k' = k
            · subst ek; exact q
            · exact h1 k' (by omega)
          refine wp_iload rfl rfl ?_
          refine wp_if_ne (tgt := 186) rfl (by decide) ?_ ?_
          · intro h
            exact absurd rfl h
          · intro _
            refine wp_aload_n rfl rfl ?_
            refine st_getR rfl fX6_29 rfl (by assumption) (by assumption) ?_
            refine wp_iload rfl rfl ?_
            refine st_iald rfl (by assumption) rfl (by omega) (by first | decide | omega) (l0) ?_
            refine wp_iload_n rfl rfl ?_
            refine wp_icmp_ne (tgt := 190) rfl (by decide) ?_ ?_
            · intro h
              exact zero (h1' (fun q => h q.1))
            · intro h170
              refine wp_aload_n rfl rfl ?_
              refine st_getR rfl fX6_29 rfl (by assumption) (by assumption) ?_
              refine wp_iload rfl rfl ?_
              refine wp_iconst (v := 1) rfl (by decide) ?_
              refine wp_iadd rfl ?_
              refine st_iald rfl (by assumption) (nI_add _ 1) (by omega) (by first | decide | omega) (l1) ?_
              refine wp_iload_n rfl rfl ?_
              refine wp_icmp_lt (tgt := 190) rfl (by decide) ?_ ?_
              · intro h
                refine zero (h1' (fun q => ?_))
                have := q.2
                rw [i_lt] at h
                rw [i_le] at this
                omega
              · intro h
                exact one ⟨k, by omega, h170, by rw [i_lt] at h; rw [i_le]; omega⟩
        · refine wp_iload rfl rfl ?_
          refine wp_if_ne (tgt := 186) rfl (by decide) ?_ ?_
          · intro _
            exact one ⟨k', by omega, h2⟩
          · intro h
            exact absurd h (by decide)
      refine wp_iload rfl rfl ?_
      refine wp_aload_n rfl rfl ?_
      refine st_getR rfl fX6_16 rfl (by assumption) (by assumption) ?_
      refine wp_iload_n rfl rfl ?_
      refine st_iald rfl (by assumption) rfl (by omega) (by first | decide | omega) (v3) ?_
      refine wp_icmp_ge (tgt := 199) rfl (by decide) ?_ ?_
      · intro h
        exact absurd h (nI_ge hkl (by omega))
      · intro _
        refine wp_sipush (v := 420) rfl (by decide) ?_
        refine wp_iload_n rfl rfl ?_
        refine wp_imul rfl ?_
        refine wp_bipush (v := 7) rfl (by decide) ?_
        refine wp_iload rfl rfl ?_
        refine wp_imul rfl ?_
        refine wp_iadd rfl ?_
        rw [hix]
        refine wp_istore rfl (by decide) ?_
        refine wp_aload_n rfl rfl ?_
        refine st_getR rfl fX6_29 rfl (by assumption) (by assumption) ?_
        refine wp_iload rfl rfl ?_
        refine st_iald rfl (by assumption) rfl (by omega) (by first | decide | omega) (l0) ?_
        refine wp_iload_n rfl rfl ?_
        refine wp_icmp_ne (tgt := 157) rfl (by decide) ?_ ?_
        · intro h
          exact next (fun _ q => h q.1)
        · intro h114
          refine wp_aload_n rfl rfl ?_
          refine st_getR rfl fX6_29 rfl (by assumption) (by assumption) ?_
          refine wp_iload rfl rfl ?_
          refine wp_iconst (v := 1) rfl (by decide) ?_
          refine wp_iadd rfl ?_
          refine st_iald rfl (by assumption) (nI_add _ 1) (by omega) (by first | decide | omega) (l1) ?_
          refine wp_iload_n rfl rfl ?_
          refine wp_icmp_ne (tgt := 157) rfl (by decide) ?_ ?_
          · intro h
            exact next (fun _ q => h q.2)
          · intro h127
            refine wp_iload rfl rfl ?_
            refine wp_aload_n rfl rfl ?_
            refine st_getR rfl fX6_19 rfl (by assumption) (by assumption) ?_
            refine wp_iload_n rfl rfl ?_
            refine st_iald rfl (by assumption) rfl (by omega) (by first | decide | omega) (v4) ?_
            refine wp_icmp_ge (tgt := 157) rfl (by decide) ?_ ?_
            · intro h
              exact next (fun q _ => absurd h (nI_ge q (by omega)))
            · intro h
              have hkd : k < pd A m := by
                rcases Nat.lt_or_ge k (pd A m) with q | q
                · exact q
                · exact absurd (nI_le q (by omega)) h
              refine wp_aload_n rfl rfl ?_
              refine wp_iload_n rfl rfl ?_
              refine wp_iload_n rfl rfl ?_
              refine wp_aload_n rfl rfl ?_
              refine wp_iload_n rfl rfl ?_
              refine wp_iload rfl rfl ?_
              refine wp_iconst (v := 1) rfl (by decide) ?_
              refine wp_iadd rfl ?_
              rw [nI_1]
              refine wp_V2 rfl mX6_order_107 (k0) (Nat.le_of_ble_eq_true rfl) (r_replay hS (by omega) (by omega : k + 1 ≤ 60) (fun k' hk' j hj => hlg k' (by omega) j hj)) ?_
              rintro _ _ ⟨rfl, d2, rfl, hf2, hR2⟩
              refine wp_V3 rfl mX6_order_111 (k0) (Nat.le_of_ble_eq_true rfl) (r_give hS ((hf2 _ _ (by omega) (by omega)).trans han) hanb) ?_
              rintro _ _ ⟨rfl, rfl⟩
              refine wp_ireturn rfl .int rfl rfl ?_
              rw [← hQ]
              exact Or.inl ⟨k, hkd, ⟨h114, h127⟩, fun k' hk' => hno k' hk' (by omega), rfl, d2, hf2, rfl⟩
  refine wp_aload_n rfl rfl ?_
  refine wp_iload_n rfl rfl ?_
  refine wp_V1 rfl mX6_order_75 (k0) (Nat.le_of_ble_eq_true rfl) (r_no k0 hN h5) ?_
  rintro _ _ ⟨rfl, ⟨i, hi, ei, rfl⟩ | ⟨h, rfl⟩⟩
  · refine wp_if_ne (tgt := 39) rfl (by decide) ?_ ?_
    · intro h
      exact absurd rfl h
    · intro _
      refine wp_iload_n rfl rfl ?_
      refine wp_iconst (v := 0) rfl (by decide) ?_
      refine wp_iconst (v := 3) rfl (by decide) ?_
      refine wp_S3 rfl mX6_order_89 (Nat.le_of_ble_eq_true rfl) (r_in (in_rg (a := 0) (b := 3) (by omega) (by omega))) ?_
      rintro _ _ ⟨rfl, ⟨-, rfl⟩ | ⟨hb, rfl⟩⟩
      · refine wp_if_eq (tgt := 39) rfl (by decide) ?_ ?_
        · intro h
          exact absurd h (by decide)
        · intro _
          refine wp_iload_n rfl rfl ?_
          refine wp_iconst (v := 1) rfl (by decide) ?_
          refine wp_sipush (v := 1000) rfl (by decide) ?_
          refine wp_S3 rfl mX6_order_89 (Nat.le_of_ble_eq_true rfl) (r_in (in_rg (a := 1) (b := 1000) (by omega) (by omega))) ?_
          rintro _ _ ⟨rfl, ⟨-, rfl⟩ | ⟨hb, rfl⟩⟩
          · refine wp_if_eq (tgt := 39) rfl (by decide) ?_ ?_
            · intro h
              exact absurd h (by decide)
            · intro _
              refine wp_iload rfl rfl ?_
              refine wp_iconst (v := 0) rfl (by decide) ?_
              refine wp_bipush (v := 40) rfl (by decide) ?_
              refine wp_S3 rfl mX6_order_89 (Nat.le_of_ble_eq_true rfl) (r_in (in_rg (a := 0) (b := 40) (by omega) (by omega))) ?_
              rintro _ _ ⟨rfl, ⟨-, rfl⟩ | ⟨hb, rfl⟩⟩
              · refine wp_if_ne (tgt := 41) rfl (by decide) ?_ ?_
                · intro _
                  refine wp_aload_n rfl rfl ?_
                  refine st_getR rfl fX6_22 rfl (by assumption) (by assumption) ?_
                  refine wp_iload_n rfl rfl ?_
                  refine st_zald rfl (by assumption) rfl (by omega) (by first | decide | omega) (hdn) ?_
                  refine wp_if_ne (tgt := 73) rfl (by decide) ?_ ?_
                  · intro h
                    exact absurd rfl h
                  · intro _
                    refine wp_aload_n rfl rfl ?_
                    refine wp_iload_n rfl rfl ?_
                    refine wp_V1 rfl mX6_order_101 (k0) (Nat.le_of_ble_eq_true rfl) (r_isNormal hS (by omega)) ?_
                    rintro _ _ ⟨rfl, rfl⟩
                    rw [bI, if_pos (show d (Y + 1) m = d (Y + 2) m by rw [v1, v2, hnm])]
                    refine wp_if_eq (tgt := 73) rfl (by decide) ?_ ?_
                    · intro h
                      exact absurd h (by decide)
                    · intro _
                      obtain ⟨-, hrm⟩ := q_div (k := pv A m) (tc := N) (j := pv A m / N) (i := m) (by have := Nat.div_add_mod (pv A m) N; rw [hld, Nat.mul_comm] at this; exact this.symm) hm (by omega) (by omega)
                      refine wp_aload_n rfl rfl ?_
                      refine st_getR rfl fX6_7 rfl (by assumption) (by assumption) ?_
                      refine wp_iload_n rfl rfl ?_
                      refine st_iald rfl (by assumption) rfl (by omega) (by first | decide | omega) (v1) ?_
                      refine wp_aload_n rfl rfl ?_
                      refine st_getI rfl fX6_68 rfl (by assumption) (hN) ?_
                      refine wp_irem rfl (nI_ne0 (by omega) (by omega)) ?_
                      rw [hrm]
                      refine wp_iload_n rfl rfl ?_
                      refine wp_icmp_eq (tgt := 76) rfl (by decide) ?_ ?_
                      · intro _
                        refine wp_iconst (v := 0) rfl (by decide) ?_
                        refine wp_istore rfl (by decide) ?_
                        refine wp_iconst (v := 0) rfl (by decide) ?_
                        refine wp_istore rfl (by decide) ?_
                        exact scan (pl A m) 0 0 none (by omega) (fun k' hk' => absurd hk' (by omega)) (Or.inl ⟨rfl, fun k' hk' => absurd hk' (by omega)⟩)
                      · intro h
                        exact absurd rfl h
                · intro h
                  exact absurd h (by decide)
              · exact absurd ⟨c, Nat.zero_le _, by omega, rfl⟩ hb
          · exact absurd hnu hb
      · exact absurd hcl hb
  · exact absurd rfl (h m hm)
end RORD2
