/-! CLASS AND REFERENCE SIDE BY SIDE: order -/
section BORD
variable {X : hX} {N q n K z an : Nat} {xs : Nat → Int32} {kd : Nat → Option hK} {d d' d0 : Nat → Nat → Int32} {r r' : Nat → Nat → Option Nat} {A : PS} {x y w : Int32}
theorem gC_give {m k : Nat} (h : gC N d A an) (hm : m < N) (hk : k < pd A m) : gC N (hu (hu (hu d 4 k 1) 5 k (anS (pg A m) k)) 3 2 (nI (an + 1))) A (an + 1) := by
  obtain ⟨a, b, c⟩ := h
  refine ⟨hu_s, by rw [hu_n (by omega), hu_n (by omega), hu_n (by omega)]; exact b, fun k' hk' hg => ?_⟩
  by_cases e : k' = k
  · subst e
    exact ⟨m, hm, hk, by rw [hu_n (by omega), hu_s]⟩
  · rw [hu_n (by omega), hu_n (by omega), hu_n (by omega)] at hg
    rw [hu_n (by omega), hu_n (by omega), hu_n (by omega)]
    exact c k' hk' hg
theorem gR_give {m k Y : Nat} {cl nu : Int32} (h : gR N Y d A an) (hm : m < N) (hk : k < pd A m) (e0 : pg A m k 0 = cl) (e1 : pg A m k 1 = nu) : gR N Y (rGv d Y an cl nu (anS (pg A m) k)) A (an + 1) := by
  obtain ⟨a, b⟩ := h
  unfold rGv
  refine ⟨hu_s, fun g hg => ?_⟩
  by_cases e : g = an
  · subst e
    refine ⟨m, k, hm, hk, ?_, ?_, ?_⟩
    · rw [hu_n (by omega), hu_n (by omega), hu_n (by omega), hu_s]; exact e0.symm
    · rw [hu_n (by omega), hu_n (by omega), hu_s]; exact e1.symm
    · rw [hu_n (by omega), hu_s]
  · rw [hu_n (by omega), hu_n (by omega), hu_n (by omega), hu_n (by omega), hu_n (by omega), hu_n (by omega), hu_n (by omega), hu_n (by omega), hu_n (by omega), hu_n (by omega), hu_n (by omega), hu_n (by omega)]
    exact b g (by omega)
theorem op_order (h : Fu N q n K z xs kd d r A an) (hq : q ≤ 600) {cl nu ki a b e f : Int32} : Op X kX5_order kX6_order [.inl x, .inl cl, .inl nu, .inl ki, .inl a, .inl b, .inl e, .inl f, .inl y] N q n xs (K, z, kd, d, r) := by
  have hVs := Fu_vs h
  obtain ⟨h1, h2, h3, h4, h5, h6, h7, h8, h9, h10, h11, ⟨b1, b2, b3, b4, b5, b6⟩, h13, h14, h15⟩ := id h
  have hN := h1.1
  by_cases hg : inR x 0 N ∧ inR cl 0 4 ∧ inR nu 1 1001 ∧ inR y 0 41
  · obtain ⟨⟨m, -, hm, rfl⟩, hcl, hnu, ⟨c, -, hc, rfl⟩⟩ := hg
    by_cases hok : ¬ d (8 + 30 * m) 8 = 0 ∧ pv A m = pn A m ∧ pv A m % N = m
    · obtain ⟨hup, hnm, hld⟩ := hok
      have hdn : d (8 + 30 * N + 5) m = 0 := Classical.not_not.mp (fun q => hup ((h10.1 m hm).mpr q))
      have hdl := (h11.1 m hm).2.1
      have hl60 := (h11.1 m hm).2.2
      refine ⟨_, c_order (an := an) h1 h3 h5 h7 h11 h8 hm (by omega) hcl hnu hup hnm hld (by omega) (fun i hi => by have := b1 i hi; omega) (by omega) (h13 K (Nat.le_refl _)), ?_⟩
      -- a match is a later one too
      have mt_lt : ∀ k, mtc (pg A m) cl nu k → ltr (pg A m) cl nu k := fun k hk => ⟨hk.1, by rw [hk.2, i_le]; omega⟩
      rintro rv1 M1 (⟨k, hk, hmt, hfst, rfl, rfl⟩ | ⟨hno, hlt, rfl, rfl⟩ | ⟨hnew, h60, d1, d2, r2, hd1, hcf, hrf, hW2, hC2, hend⟩)
      · -- an answer is given again
        have f1 : ∀ q j, ¬ (3 ≤ q ∧ q ≤ 5) → hu (hu (hu d 4 k 1) 5 k (anS (pg A m) k)) 3 2 (nI (an + 1)) q j = d q j := fun q j hq => by
          rw [hu_n (by omega), hu_n (by omega), hu_n (by omega)]
        have hG1 := gC_give h8 hm hk
        generalize hD1 : hu (hu (hu d 4 k 1) 5 k (anS (pg A m) k)) 3 2 (nI (an + 1)) = D1 at f1 hG1
        refine ⟨⟨h14, fun j => (f1 0 j (by omega)).trans (h15 j), h1.2.1, h2.1⟩, _, rfl, (r_order (rch := rcB N d m) (A := A) (an := an) h2 (rW_keep h6 (f1 _ _ (by omega)) (f1 _ _ (by omega)) (fun q j _ _ _ _ => f1 _ _ (by omega))) ((f1 _ _ (by omega)).trans h4) hN hm (by omega) hcl hnu ((f1 _ _ (by omega)).trans hdn) hnm hld (by omega) hdl ((f1 _ _ (by omega)).trans h9.1) (by omega) (lk_rch h10 (fun j => f1 _ _ (by omega)) (fun j => f1 _ _ (by omega)) hm)).mono ?_⟩
        rintro rv2 M2 (⟨k', hk', hmt', hfst', rfl, d3, hf3, rfl⟩ | ⟨hno, -⟩ | ⟨hnew, -⟩)
        · have ek : k = k' := by
            rcases Nat.lt_trichotomy k k' with y | y | y
            · exact absurd hmt (hfst' k y)
            · exact y
            · exact absurd hmt' (hfst k' y)
          subst ek
          have f2 : ∀ q j, ¬ (q = 8 + 30 * N + 8) → ¬ (q = 8 + 30 * N ∧ j = 11) → rGv d3 (8 + 30 * N) an cl nu (anS (pg A m) k) q j = d3 q j := fun q j c1 c2 => by
            unfold rGv
            rw [hu_n (by omega), hu_n (by omega), hu_n (by omega), hu_n (by omega)]
          have f3 : ∀ q j, (q < 8 + 30 * N ∨ 8 + 30 * N + 19 < q) → rGv d3 (8 + 30 * N) an cl nu (anS (pg A m) k) q j = D1 q j := fun q j c1 => (f2 q j (by omega) (by omega)).trans (hf3 q j (by omega) (by omega))
          have f4 : ∀ q j, 8 + 30 * N + 1 ≤ q → q ≤ 8 + 30 * N + 7 → rGv d3 (8 + 30 * N) an cl nu (anS (pg A m) k) q j = d q j := fun q j c1 c2 => (f2 q j (by omega) (by omega)).trans ((hf3 q j (by omega) (by omega)).trans (f1 q j (by omega)))
          have f5 : ∀ j, j ≠ 11 → j ≠ 14 → j ≠ 16 → rGv d3 (8 + 30 * N) an cl nu (anS (pg A m) k) (8 + 30 * N) j = d (8 + 30 * N) j := fun j c1 c2 c3 => (f2 _ j (by omega) (by omega)).trans ((hf3 _ j (by omega) (by omega)).trans (f1 _ j (by omega)))
          have hgR : gR N (8 + 30 * N) (rGv d3 (8 + 30 * N) an cl nu (anS (pg A m) k)) A (an + 1) := gR_give (gR_st h9 (St.refl _ _) ((hf3 _ _ (by omega) (by omega)).trans (f1 _ _ (by omega))) (funext (fun j => (hf3 _ _ (by omega) (by omega)).trans (f1 _ _ (by omega))))) hm hk hmt.1 hmt.2
          generalize hDF : rGv d3 (8 + 30 * N) an cl nu (anS (pg A m) k) = DF at f2 f3 f4 f5 hgR
          refine ⟨rfl, A, an + 1, h1, h2, (f3 1 0 (by omega)).trans ((f1 1 0 (by omega)).trans h3), (f5 1 (by omega) (by omega) (by omega)).trans h4, cW_out h1 h2 h5 (fun q j c1 c2 c3 => (f3 q j c2).trans (f1 q j (by omega))), rW_keep h6 (f5 9 (by omega) (by omega) (by omega)) (f5 10 (by omega) (by omega) (by omega)) (fun q j c1 c2 _ _ => f4 q j c1 c2), cS_keep h7 (fun i hi => (f3 (8 + 30 * i) 3 (by omega)).trans (f1 _ _ (by omega))) (fun i hi q c1 c2 => funext (fun j => (f3 q j (by omega)).trans (f1 q j (by omega)))), gC_st hG1 (St.refl _ _) (funext (fun j => f3 3 j (by omega))) (funext (fun j => f3 4 j (by omega))) (funext (fun j => f3 5 j (by omega))), hgR, lk_keep h10 (fun i hi => (f3 (8 + 30 * i) 8 (by omega)).trans (f1 _ _ (by omega))) (fun j => (f3 2 j (by omega)).trans (f1 2 j (by omega))) (fun j => f4 _ j (by omega) (by omega)) (fun j => f4 _ j (by omega) (by omega)), h11, ⟨fun i hi => by have := b1 i hi; omega, by omega, by omega, b4, by show K ≤ 8 + 30 * N + 20 + (q + 1); omega, by show z ≤ 100000 + 7 * (q + 1); omega⟩, h13, h14, fun j => (f3 0 j (by omega)).trans ((f1 0 j (by omega)).trans (h15 j))⟩
        · exact absurd hmt (hno k hk)
        · exact absurd (mt_lt k hmt) (hnew k (by omega))
      · -- nothing is done
        refine ⟨hVs, _, rfl, (r_order (rch := rcB N d m) (A := A) (an := an) h2 h6 h4 hN hm (by omega) hcl hnu hdn hnm hld (by omega) hdl h9.1 (by omega) (lk_rch h10 (fun j => rfl) (fun j => rfl) hm)).mono ?_⟩
        rintro rv2 M2 (⟨k', hk', hmt', -⟩ | ⟨-, -, rfl, rfl⟩ | ⟨hnew, h60, -⟩)
        · exact absurd hmt' (hno k' hk')
        · exact ⟨rfl, A, an, Fu_q h⟩
        · rcases hlt with ⟨k, hk, hl⟩ | hl
          · exact absurd hl (hnew k hk)
          · omega
      · -- a new order
        have hN1 : 1 < N := by omega
        obtain ⟨i1, i2, i3, i4, i5, i6⟩ := inv_order (c := c) (o := o7 cl nu ki a b e f) (rch := rcB N d m) (W := 5 * q) h11 hm hN1 (fun i h e => h.1 e.symm) b1 hnm hld h60 (fun k hk h0 => by
          have h1 : ¬ nu ≤ pg A m k 1 := fun q => hnew k hk ⟨h0, q⟩
          show pg A m k 1 < nu
          rw [i_le] at h1
          rw [i_lt]
          omega)
        have hS2 : Sh N (hu1 kd K (some (.inl 2))) r2 := Sh_r (Sh_mono (r' := hr0 r K) h1 (fun q hq => hu1_n (by omega)) (fun q j hq => if_neg (by omega))) hrf
        have hR2 : rs (hu1 kd K (some (.inl 2))) r2 (8 + 30 * N) := rs_mono h2 (fun q c1 c2 => hu1_n (by omega)) (fun q j c1 c2 => (hrf q j (fun i hi => by omega)).trans (if_neg (by omega)))
        have h13' : ∀ p, K + 1 ≤ p → hu1 kd K (some (.inl 2)) p = none := fun p hp => by
          rw [hu1_n (by omega)]
          exact h13 p (by omega)
        have h14' : hu1 kd K (some (.inl 2)) 0 = some (.inr (.inl (.int, n))) := by
          rw [hu1_n (by omega)]
          exact h14
        have hi : ∀ q j, 8 + 30 * N ≤ q → q ≤ 8 + 30 * N + 19 → d2 q j = d q j := fun q j c1 c2 => by
          rw [hcf q j (by omega) (fun i hi => by omega), hd1 q (by omega)]
        have lo : ∀ q j, q ≤ 5 → q ≠ 1 → d2 q j = d q j := fun q j c1 c2 => by
          rw [hcf q j (by omega) (fun i hi => by omega), hd1 q (by omega)]
        have lo1 : d2 1 0 = d 1 0 := by rw [hcf 1 0 (by omega) (fun i hi => by omega), hd1 1 (by omega)]
        have lo8 : ∀ i, i < N → d2 (8 + 30 * i) 8 = d (8 + 30 * i) 8 := fun i hi => by rw [hcf _ _ (by omega) (fun a ha => by omega), hd1 _ (by omega)]
        have hG2 : gC N d2 (pOr N (rcB N d m) m c (o7 cl nu ki a b e f) A) an := gC_st h8 i2 (funext (fun j => lo 3 j (by omega) (by omega))) (funext (fun j => lo 4 j (by omega) (by omega))) (funext (fun j => lo 5 j (by omega) (by omega)))
        -- what the reference does, from any memory that is as d2 but for given answers
        have go : ∀ (D : Nat → Nat → Int32) (rvv : Int32) (P : Nat → hM → Prop), (∀ q j, ¬ (3 ≤ q ∧ q ≤ 5) → D q j = d2 q j) →
            (∀ d3, rW N (8 + 30 * N) D (pOr N (rcB N d m) m c (o7 cl nu ki a b e f) A) d3 → ∀ (rv2 : Option hV) (M2 : hM), ((pd (pOr N (rcB N d m) m c (o7 cl nu ki a b e f) A) m = pl (pOr N (rcB N d m) m c (o7 cl nu ki a b e f) A) m ∧ rv2 = some (.inl (anL (pg (pOr N (rcB N d m) m c (o7 cl nu ki a b e f) A) m) (pl (pOr N (rcB N d m) m c (o7 cl nu ki a b e f) A) m))) ∧ ∃ d4, rFr (8 + 30 * N) d3 d4 ∧ M2 = (K + 1, z + 7, hu1 kd K (some (.inl 2)), rGv d4 (8 + 30 * N) an cl nu (anL (pg (pOr N (rcB N d m) m c (o7 cl nu ki a b e f) A) m) (pl (pOr N (rcB N d m) m c (o7 cl nu ki a b e f) A) m)), r2)) ∨
              (pd (pOr N (rcB N d m) m c (o7 cl nu ki a b e f) A) m ≠ pl (pOr N (rcB N d m) m c (o7 cl nu ki a b e f) A) m ∧ rv2 = some (.inl (-2)) ∧ M2 = (K + 1, z + 7, hu1 kd K (some (.inl 2)), d3, r2))) → rv2 = some (.inl rvv) ∧ FuE N (q + 1) n xs M2) →
            Cl X kX6_order [.inr (some (8 + 30 * N)), .inl (nI m), .inl cl, .inl nu, .inl ki, .inl a, .inl b, .inl e, .inl f, .inl (nI c)] (K + 1, z + 7, hu1 kd K (some (.inl 2)), D, r2) (fun rv2 M2 => rv2 = some (.inl rvv) ∧ FuE N (q + 1) n xs M2) := by
          intro D rvv P hD hfin
          have hiD : ∀ q j, 8 + 30 * N ≤ q → q ≤ 8 + 30 * N + 19 → D q j = d q j := fun q j c1 c2 => (hD q j (by omega)).trans (hi q j c1 c2)
          refine (r_order (rch := rcB N d m) (A := A) (an := an) hR2 (rW_keep h6 (hiD _ _ (by omega) (by omega)) (hiD _ _ (by omega) (by omega)) (fun q j c1 c2 _ _ => hiD _ _ (by omega) (by omega))) ((hiD _ _ (by omega) (by omega)).trans h4) hN hm (by omega) hcl hnu ((hiD _ _ (by omega) (by omega)).trans hdn) hnm hld (by omega) hdl ((hiD _ _ (by omega) (by omega)).trans h9.1) (by omega) (lk_rch h10 (fun j => hiD _ _ (by omega) (by omega)) (fun j => hiD _ _ (by omega) (by omega)) hm)).mono ?_
          rintro rv2 M2 (⟨k', hk', hmt', -⟩ | ⟨-, hlt, -⟩ | ⟨-, -, d3, hW3, hcase⟩)
          · exact absurd (mt_lt k' hmt') (hnew k' (by omega))
          · rcases hlt with ⟨k, hk, hl⟩ | hl
            · exact absurd hl (hnew k hk)
            · omega
          · exact hfin d3 hW3 rv2 M2 hcase
        generalize hB : pOr N (rcB N d m) m c (o7 cl nu ki a b e f) A = B at *
        rcases hend with ⟨k, hpd, hpl, rfl, rfl⟩ | ⟨hne, rfl, rfl⟩
        · have hkd : k < pd B m := by omega
          have hkl : k = pl A m := by omega
          have hent : pg B m k = o7 cl nu ki a b e f := by rw [i6]; exact if_pos hkl
          have f1 : ∀ q j, ¬ (3 ≤ q ∧ q ≤ 5) → hu (hu (hu d2 4 k 1) 5 k (anS (pg B m) k)) 3 2 (nI (an + 1)) q j = d2 q j := fun q j hq => by
            rw [hu_n (by omega), hu_n (by omega), hu_n (by omega)]
          have hG1 := gC_give hG2 hm hkd
          generalize hD1 : hu (hu (hu d2 4 k 1) 5 k (anS (pg B m) k)) 3 2 (nI (an + 1)) = D1 at f1 hG1
          refine ⟨⟨h14', fun j => (f1 0 j (by omega)).trans ((lo 0 j (by omega) (by omega)).trans (h15 j)), hS2.2.1, hR2.1⟩, _, rfl, go D1 (anS (pg B m) k) (fun _ _ => True) f1 ?_⟩
          rintro d3 hW3 rv2 M2 (⟨-, rfl, d4, hf4, rfl⟩ | ⟨hne, -⟩)
          · have eL : anL (pg B m) (pl B m) = anS (pg B m) k := by rw [hpl]; rfl
            rw [eL]
            have g3 : ∀ q j, (q < 8 + 30 * N ∨ 8 + 30 * N + 19 < q) → d3 q j = D1 q j := fun q j hq => hW3.1 q j (by omega) (by omega) (by omega) (by omega) (by omega) (by omega)
            have g3' : ∀ q j, (q = 8 + 30 * N + 5 ∨ q = 8 + 30 * N + 6 ∨ q = 8 + 30 * N + 8 ∨ (q = 8 + 30 * N ∧ j ≠ 9 ∧ j ≠ 10)) → d3 q j = D1 q j := fun q j hq => hW3.1 q j (by omega) (by omega) (by omega) (by omega) (by omega) (by omega)
            have f2 : ∀ q j, ¬ (q = 8 + 30 * N + 8) → ¬ (q = 8 + 30 * N ∧ j = 11) → rGv d4 (8 + 30 * N) an cl nu (anS (pg B m) k) q j = d4 q j := fun q j c1 c2 => by
              unfold rGv
              rw [hu_n (by omega), hu_n (by omega), hu_n (by omega), hu_n (by omega)]
            have f3 : ∀ q j, (q < 8 + 30 * N ∨ 8 + 30 * N + 19 < q) → rGv d4 (8 + 30 * N) an cl nu (anS (pg B m) k) q j = D1 q j := fun q j c1 => (f2 q j (by omega) (by omega)).trans ((hf4 q j (by omega) (by omega)).trans (g3 q j c1))
            have f4 : ∀ q j, 8 + 30 * N + 1 ≤ q → q ≤ 8 + 30 * N + 7 → rGv d4 (8 + 30 * N) an cl nu (anS (pg B m) k) q j = d3 q j := fun q j c1 c2 => (f2 q j (by omega) (by omega)).trans (hf4 q j (by omega) (by omega))
            have f5 : ∀ j, j ≠ 11 → j ≠ 14 → j ≠ 16 → rGv d4 (8 + 30 * N) an cl nu (anS (pg B m) k) (8 + 30 * N) j = d3 (8 + 30 * N) j := fun j c1 c2 c3 => (f2 _ j (by omega) (by omega)).trans (hf4 _ j (by omega) (by omega))
            have e11 : d4 (8 + 30 * N) 11 = d (8 + 30 * N) 11 := (hf4 _ _ (by omega) (by omega)).trans ((g3' _ _ (by omega)).trans ((f1 _ _ (by omega)).trans (hi _ _ (by omega) (by omega))))
            have e8 : d4 (8 + 30 * N + 8) = d (8 + 30 * N + 8) := funext (fun j => (hf4 _ _ (by omega) (by omega)).trans ((g3' _ _ (by omega)).trans ((f1 _ _ (by omega)).trans (hi _ _ (by omega) (by omega)))))
            have hgR : gR N (8 + 30 * N) (rGv d4 (8 + 30 * N) an cl nu (anS (pg B m) k)) B (an + 1) := gR_give (gR_st h9 i2 e11 e8) hm hkd (by rw [hent]; rfl) (by rw [hent]; rfl)
            generalize hDF : rGv d4 (8 + 30 * N) an cl nu (anS (pg B m) k) = DF at f2 f3 f4 f5 hgR
            refine ⟨rfl, B, an + 1, hS2, hR2, (f3 1 0 (by omega)).trans ((f1 1 0 (by omega)).trans (lo1.trans h3)), (f5 1 (by omega) (by omega) (by omega)).trans ((g3' _ _ (by omega)).trans ((f1 _ _ (by omega)).trans ((hi _ _ (by omega) (by omega)).trans h4))), cW_out hS2 hR2 hW2 (fun q j c1 c2 c3 => (f3 q j c2).trans (f1 q j (by omega))), rW_keep (rW_self hW3) (f5 9 (by omega) (by omega) (by omega)) (f5 10 (by omega) (by omega) (by omega)) (fun q j c1 c2 _ _ => f4 q j c1 c2), cS_keep hC2 (fun i hi => (f3 (8 + 30 * i) 3 (by omega)).trans (f1 _ _ (by omega))) (fun i hi q c1 c2 => funext (fun j => (f3 q j (by omega)).trans (f1 q j (by omega)))), gC_st hG1 (St.refl _ _) (funext (fun j => f3 3 j (by omega))) (funext (fun j => f3 4 j (by omega))) (funext (fun j => f3 5 j (by omega))), hgR, lk_keep h10 (fun i hi => (f3 (8 + 30 * i) 8 (by omega)).trans ((f1 _ _ (by omega)).trans (lo8 i hi))) (fun j => (f3 2 j (by omega)).trans ((f1 2 j (by omega)).trans (lo 2 j (by omega) (by omega)))) (fun j => (f4 _ j (by omega) (by omega)).trans ((g3' _ _ (by omega)).trans ((f1 _ _ (by omega)).trans (hi _ _ (by omega) (by omega))))) (fun j => (f4 _ j (by omega) (by omega)).trans ((g3' _ _ (by omega)).trans ((f1 _ _ (by omega)).trans (hi _ _ (by omega) (by omega))))), i1, ⟨fun i hi => by have := i3 i hi; omega, by omega, by omega, by show 8 + 30 * N + 20 ≤ K + 1; omega, by show K + 1 ≤ 8 + 30 * N + 20 + (q + 1); omega, by show z + 7 ≤ 100000 + 7 * (q + 1); omega⟩, h13', h14', fun j => (f3 0 j (by omega)).trans ((f1 0 j (by omega)).trans ((lo 0 j (by omega) (by omega)).trans (h15 j)))⟩
          · exact absurd (hpd.trans hpl.symm) hne
        · refine ⟨⟨h14', fun j => (lo 0 j (by omega) (by omega)).trans (h15 j), hS2.2.1, hR2.1⟩, _, rfl, go d2 (-2) (fun _ _ => True) (fun _ _ _ => rfl) ?_⟩
          rintro d3 hW3 rv2 M2 (⟨he, -⟩ | ⟨-, rfl, rfl⟩)
          · exact absurd he hne
          · have g3 : ∀ q j, (q < 8 + 30 * N ∨ 8 + 30 * N + 19 < q) → d3 q j = d2 q j := fun q j hq => hW3.1 q j (by omega) (by omega) (by omega) (by omega) (by omega) (by omega)
            have g3' : ∀ q j, (q = 8 + 30 * N + 5 ∨ q = 8 + 30 * N + 6 ∨ q = 8 + 30 * N + 8 ∨ (q = 8 + 30 * N ∧ j ≠ 9 ∧ j ≠ 10)) → d3 q j = d2 q j := fun q j hq => hW3.1 q j (by omega) (by omega) (by omega) (by omega) (by omega) (by omega)
            refine ⟨rfl, B, an, hS2, hR2, (g3 1 0 (by omega)).trans (lo1.trans h3), (g3' _ _ (by omega)).trans ((hi _ _ (by omega) (by omega)).trans h4), cW_out hS2 hR2 hW2 (fun q j c1 c2 c3 => g3 q j c2), rW_self hW3, cS_keep hC2 (fun i hi => g3 (8 + 30 * i) 3 (by omega)) (fun i hi q c1 c2 => funext (fun j => g3 q j (by omega))), gC_st hG2 (St.refl _ _) (funext (fun j => g3 3 j (by omega))) (funext (fun j => g3 4 j (by omega))) (funext (fun j => g3 5 j (by omega))), gR_st h9 i2 ((g3' _ _ (by omega)).trans (hi _ _ (by omega) (by omega))) (funext (fun j => (g3' _ _ (by omega)).trans (hi _ _ (by omega) (by omega)))), lk_keep h10 (fun i hi => (g3 (8 + 30 * i) 8 (by omega)).trans (lo8 i hi)) (fun j => (g3 2 j (by omega)).trans (lo 2 j (by omega) (by omega))) (fun j => (g3' _ _ (by omega)).trans (hi _ _ (by omega) (by omega))) (fun j => (g3' _ _ (by omega)).trans (hi _ _ (by omega) (by omega))), i1, ⟨fun i hi => by have := i3 i hi; omega, by omega, by omega, by show 8 + 30 * N + 20 ≤ K + 1; omega, by show K + 1 ≤ 8 + 30 * N + 20 + (q + 1); omega, by show z + 7 ≤ 100000 + 7 * (q + 1); omega⟩, h13', h14', fun j => (g3 0 j (by omega)).trans ((lo 0 j (by omega) (by omega)).trans (h15 j))⟩
    · have hok' : ¬ (d (8 + 30 * N + 5) m = 0 ∧ pv A m = pn A m ∧ pv A m % N = m) := fun hc => hok ⟨fun q => (h10.1 m hm).mp q hc.1, hc.2⟩
      refine ⟨_, c_orderN h1 h3 h5 hm (by omega) hcl hnu hok, ?_⟩
      rintro rv1 M1 ⟨rfl, rfl⟩
      refine ⟨hVs, _, rfl, (r_orderN h2 h6 h4 hN hm (by omega) hcl hnu hok').mono ?_⟩
      rintro rv2 M2 ⟨rfl, rfl⟩
      exact ⟨rfl, A, an, Fu_q h⟩
  · refine ⟨_, c_orderB h1 h3 hg, ?_⟩
    rintro rv1 M1 ⟨rfl, rfl⟩
    refine ⟨hVs, _, rfl, (r_orderB h2 h4 (by omega) hg).mono ?_⟩
    rintro rv2 M2 ⟨rfl, rfl⟩
    exact ⟨rfl, A, an, Fu_q h⟩
end BORD
