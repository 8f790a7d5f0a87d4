/-! THE REFERENCE: agree, order -/
/-- order o is put behind the log of m -/
def pAp (A : PS) (m : Nat) (o : Nat → Int32) : PS := pSet A m (pv A m) (pn A m) (pl A m + 1) (pd A m) (fun k => if k = pl A m then o else pg A m k)
def mtc (g : Nat → Nat → Int32) (cl nu : Int32) (k : Nat) : Prop := g k 0 = cl ∧ g k 1 = nu
def ltr (g : Nat → Nat → Int32) (cl nu : Int32) (k : Nat) : Prop := g k 0 = cl ∧ nu ≤ g k 1
/-- an answer is given, in the reference -/
def rGv (d : Nat → Nat → Int32) (Y n : Nat) (x y w : Int32) : Nat → Nat → Int32 := hu (hu (hu (hu d (Y + 8) (3 * n) x) (Y + 8) (3 * n + 1) y) (Y + 8) (3 * n + 2) w) Y 11 (nI (n + 1))
section RORD
variable {X : hX} {K z : Nat} {kd : Nat → Option hK} {d d0 : Nat → Nat → Int32} {r : Nat → Nat → Option Nat} {N Y m j : Nat} {A : PS} {x y w : Int32}
theorem r_agree (hS : rs kd r Y) (hN : d Y 1 = nI N) (hN3 : N = 3 ∨ N = 5) {dn : Nat → Nat} {G : Nat → Nat → Nat → Int32} {an : Nat} (hl : ∀ i, i < N → d (Y + 4) i = nI (dn i) ∧ dn i ≤ 60 ∧ ∀ k, k < dn i → ∀ j, j < 7 → d (Y + 7) (420 * i + 7 * k + j) = G i k j)
    (hA : ∀ a b, a < N → b < N → ∀ k, k < dn a → k < dn b → ∀ j, j < 7 → G a k j = G b k j) (han : d Y 11 = nI an) (hanb : an < 4000) (hg : ∀ i, i < N → ∀ k, k < dn i → ∀ g, g < an → d (Y + 8) (3 * g) = G i k 0 → d (Y + 8) (3 * g + 1) = G i k 1 → d (Y + 8) (3 * g + 2) = anS (G i) k) : Cl X kX6_agree [.inr (some Y)] (K, z, kd, d, r) (fun rv M' => rv = some (.inl 1) ∧ ∃ d', M' = (K, z, kd, d', r) ∧ rFr Y d d') := by
  obtain ⟨k0, r2, r3, r4, r5, r6, r7, r8, r12, r13, r15, r17, r18, r19, r20, r21, r22, r23, r24, r25, k1, k2, k3, k4, k5, k6, k7, k8, k9, k10, k11, k12, k13, k14, k15, k16, k17, k18, k19, hY⟩ := id hS
  refine h_ofWp oX6_agree (by decide) (Nat.le_of_ble_eq_true rfl) ?_
  generalize hQ : (fun (rv : Option hV) (M' : hM) => rv = some (.inl 1) ∧ ∃ d', M' = (K, z, kd, d', r) ∧ rFr Y d d') = Q
  have fN : ∀ {d1}, rFr Y d d1 → d1 Y 1 = nI N := fun hf => (hf _ _ (by omega) (by omega)).trans hN
  have fn : ∀ {d1}, rFr Y d d1 → d1 Y 11 = nI an := fun hf => (hf _ _ (by omega) (by omega)).trans han
  have fd : ∀ {d1}, rFr Y d d1 → ∀ i, i < N → d1 (Y + 4) i = nI (dn i) := fun hf i hi => (hf _ _ (by omega) (by omega)).trans (hl i hi).1
  have fl : ∀ {d1}, rFr Y d d1 → ∀ i, i < N → ∀ k, k < dn i → ∀ j, j < 7 → d1 (Y + 7) (420 * i + 7 * k + j) = G i k j := fun hf i hi k hk j hj => (hf _ _ (by omega) (by omega)).trans ((hl i hi).2.2 k hk j hj)
  have fg : ∀ {d1}, rFr Y d d1 → ∀ q, d1 (Y + 8) q = d (Y + 8) q := fun hf q => hf _ _ (by omega) (by omega)
  -- the answers given
  have third : ∀ L, L < N → ∀ n k d1 x4 x5 x6 x7, k + n = dn L → rFr Y d d1 → Wp X kX6_agree K z 128 [some (.inr (some Y)), some (.inl (nI L)), some (.inl 1), some (.inl (nI k)), x4, x5, x6, x7] [] (K, z, kd, d1, r) Q := by
    intro L hL n
    have h60 := (hl L hL).2.1
    induction n with
    | zero =>
      intro k d1 x4 x5 x6 x7 hk hf
      refine wp_iload_n rfl rfl ?_
      refine wp_aload_n rfl rfl ?_
      refine st_getR rfl fX6_19 rfl (by assumption) (by assumption) ?_
      refine wp_iload_n rfl rfl ?_
      refine st_iald rfl (by assumption) rfl (by omega) (by first | decide | omega) (fd hf L hL) ?_
      refine wp_icmp_ge (tgt := 264) rfl (by decide) ?_ ?_
      · intro _
        refine wp_iload_n rfl rfl ?_
        refine wp_ireturn rfl .boolean rfl rfl ?_
        rw [← hQ]
        exact ⟨rfl, d1, rfl, hf⟩
      · intro h
        exact absurd (nI_le (by omega) (by omega)) h
    | succ n ih =>
      intro k d1 x4 x5 x6 x7 hk hf
      have hkd : k < dn L := by omega
      have hix : (420 : Int32) * nI L + 7 * nI k = nI (420 * L + 7 * k) := by
        have a1 : (420 : Int32) * nI L = nI (420 * L) := pk_mul 420 L
        have a2 : (7 : Int32) * nI k = nI (7 * k) := pk_mul 7 k
        rw [a1, a2, nI_add]
      have inner : ∀ l g d2 x7, g + l = an → rFr Y d d2 → Wp X kX6_agree K z 163 [some (.inr (some Y)), some (.inl (nI L)), some (.inl 1), some (.inl (nI k)), some (.inl (nI (420 * L + 7 * k))), some (.inl (anS (G L) k)), some (.inl (nI g)), x7] [] (K, z, kd, d2, r) Q := by
        intro l
        induction l with
        | zero =>
          intro g d2 x7 hgl hf2
          refine wp_iload rfl rfl ?_
          refine wp_aload_n rfl rfl ?_
          refine st_getI rfl fX6_115 rfl (by assumption) (fn hf2) ?_
          refine wp_icmp_ge (tgt := 258) rfl (by decide) ?_ ?_
          · intro _
            refine wp_inc rfl rfl (by decide) ?_
            refine wp_goto (tgt := 128) rfl (by decide) ?_
            exact ih (k + 1) d2 _ _ _ _ (by omega) hf2
          · intro h
            exact absurd (nI_le (by omega) (by omega)) h
        | succ l ihl =>
          intro g d2 x7 hgl hf2
          have hga : g < an := by omega
          have h3 : (3 : Int32) * nI g = nI (3 * g) := pk_mul 3 g
          have h31 : (3 : Int32) * nI g + 1 = nI (3 * g + 1) := by rw [h3]; exact nI_add _ 1
          have h32 : (3 : Int32) * nI g + 2 = nI (3 * g + 2) := by rw [h3]; exact nI_add _ 2
          have skip : Wp X kX6_agree K z 218 [some (.inr (some Y)), some (.inl (nI L)), some (.inl 1), some (.inl (nI k)), some (.inl (nI (420 * L + 7 * k))), some (.inl (anS (G L) k)), some (.inl (nI g)), x7] [] (K, z, kd, d2, r) Q := by
            refine wp_iconst (v := 0) rfl (by decide) ?_
            refine wp_istore rfl (by decide) ?_
            refine wp_iload_n rfl rfl ?_
            refine wp_if_eq (tgt := 250) rfl (by decide) ?_ ?_
            · intro h
              exact absurd h (by decide)
            · intro _
              refine wp_iload rfl rfl ?_
              refine wp_if_eq (tgt := 246) rfl (by decide) ?_ ?_
              · intro _
                refine wp_iconst (v := 1) rfl (by decide) ?_
                refine wp_goto (tgt := 251) rfl (by decide) ?_
                refine wp_istore_n rfl (by decide) ?_
                refine wp_inc rfl rfl (by decide) ?_
                refine wp_goto (tgt := 163) rfl (by decide) ?_
                exact ihl (g + 1) d2 _ (by omega) hf2
              · intro h
                exact absurd rfl h
          refine wp_iload rfl rfl ?_
          refine wp_aload_n rfl rfl ?_
          refine st_getI rfl fX6_115 rfl (by assumption) (fn hf2) ?_
          refine wp_icmp_ge (tgt := 258) rfl (by decide) ?_ ?_
          · intro h
            exact absurd h (nI_ge hga (by omega))
          · intro _
            refine wp_aload_n rfl rfl ?_
            refine st_getR rfl fX6_32 rfl (by assumption) (by assumption) ?_
            refine wp_iconst (v := 3) rfl (by decide) ?_
            refine wp_iload rfl rfl ?_
            refine wp_imul rfl ?_
            refine st_iald rfl (by assumption) (h3) (by omega) (by first | decide | omega) (fg hf2 _) ?_
            refine wp_aload_n rfl rfl ?_
            refine st_getR rfl fX6_29 rfl (by assumption) (by assumption) ?_
            refine wp_iload rfl rfl ?_
            refine st_iald rfl (by assumption) rfl (by omega) (by first | decide | omega) (fl hf2 L hL k hkd 0 (by omega)) ?_
            refine wp_icmp_ne (tgt := 218) rfl (by decide) ?_ ?_
            · intro _
              exact skip
            · intro h188
              refine wp_aload_n rfl rfl ?_
              refine st_getR rfl fX6_32 rfl (by assumption) (by assumption) ?_
              refine wp_iconst (v := 3) rfl (by decide) ?_
              refine wp_iload rfl rfl ?_
              refine wp_imul rfl ?_
              refine wp_iconst (v := 1) rfl (by decide) ?_
              refine wp_iadd rfl ?_
              refine st_iald rfl (by assumption) (h31) (by omega) (by first | decide | omega) (fg hf2 _) ?_
              refine wp_aload_n rfl rfl ?_
              refine st_getR rfl fX6_29 rfl (by assumption) (by assumption) ?_
              refine wp_iload rfl rfl ?_
              refine wp_iconst (v := 1) rfl (by decide) ?_
              refine wp_iadd rfl ?_
              refine st_iald rfl (by assumption) (nI_add _ 1) (by omega) (by first | decide | omega) (fl hf2 L hL k hkd 1 (by omega)) ?_
              refine wp_icmp_ne (tgt := 218) rfl (by decide) ?_ ?_
              · intro _
                exact skip
              · intro h211
                refine wp_iconst (v := 1) rfl (by decide) ?_
                refine wp_goto (tgt := 219) rfl (by decide) ?_
                refine wp_istore rfl (by decide) ?_
                refine wp_iload_n rfl rfl ?_
                refine wp_if_eq (tgt := 250) rfl (by decide) ?_ ?_
                · intro h
                  exact absurd h (by decide)
                · intro _
                  refine wp_iload rfl rfl ?_
                  refine wp_if_eq (tgt := 246) rfl (by decide) ?_ ?_
                  · intro h
                    exact absurd h (by decide)
                  · intro _
                    refine wp_aload_n rfl rfl ?_
                    refine st_getR rfl fX6_32 rfl (by assumption) (by assumption) ?_
                    refine wp_iconst (v := 3) rfl (by decide) ?_
                    refine wp_iload rfl rfl ?_
                    refine wp_imul rfl ?_
                    refine wp_iconst (v := 2) rfl (by decide) ?_
                    refine wp_iadd rfl ?_
                    refine st_iald rfl (by assumption) (h32) (by omega) (by first | decide | omega) (fg hf2 _) ?_
                    refine wp_iload rfl rfl ?_
                    refine wp_icmp_ne (tgt := 250) rfl (by decide) ?_ ?_
                    · intro h
                      exact absurd (hg L hL k hkd g hga h188 h211) h
                    · intro _
                      refine wp_iconst (v := 1) rfl (by decide) ?_
                      refine wp_goto (tgt := 251) rfl (by decide) ?_
                      refine wp_istore_n rfl (by decide) ?_
                      refine wp_inc rfl rfl (by decide) ?_
                      refine wp_goto (tgt := 163) rfl (by decide) ?_
                      exact ihl (g + 1) d2 _ (by omega) hf2
      refine wp_iload_n rfl rfl ?_
      refine wp_aload_n rfl rfl ?_
      refine st_getR rfl fX6_19 rfl (by assumption) (by assumption) ?_
      refine wp_iload_n rfl rfl ?_
      refine st_iald rfl (by assumption) rfl (by omega) (by first | decide | omega) (fd hf L hL) ?_
      refine wp_icmp_ge (tgt := 264) rfl (by decide) ?_ ?_
      · intro h
        exact absurd h (nI_ge hkd (by omega))
      · intro _
        refine wp_sipush (v := 420) rfl (by decide) ?_
        refine wp_iload_n rfl rfl ?_
        refine wp_imul rfl ?_
        refine wp_bipush (v := 7) rfl (by decide) ?_
        refine wp_iload_n rfl rfl ?_
        refine wp_imul rfl ?_
        refine wp_iadd rfl ?_
        rw [hix]
        refine wp_istore rfl (by decide) ?_
        refine wp_aload_n rfl rfl ?_
        refine wp_iload_n rfl rfl ?_
        refine wp_iload_n rfl rfl ?_
        refine wp_iconst (v := 1) rfl (by decide) ?_
        refine wp_iadd rfl ?_
        rw [nI_1]
        refine wp_V2 rfl mX6_agree_107 (k0) (Nat.le_of_ble_eq_true rfl) (r_replay hS (by omega) (by omega : k + 1 ≤ 60) (fun k' hk' j hj => fl hf L hL k' (by omega) j hj)) ?_
        rintro _ _ ⟨rfl, d2, rfl, hf2, hR2⟩
        refine wp_istore rfl (by decide) ?_
        refine wp_iconst (v := 0) rfl (by decide) ?_
        refine wp_istore rfl (by decide) ?_
        exact inner an 0 d2 _ (by omega) (rFr_trans hf hf2)
  have first : ∀ n a L d1 x4 x5 x6 x7, a + n = N → L < N → rFr Y d d1 → Wp X kX6_agree K z 6 [some (.inr (some Y)), some (.inl (nI L)), some (.inl 1), some (.inl (nI a)), x4, x5, x6, x7] [] (K, z, kd, d1, r) Q := by
    intro n
    induction n with
    | zero =>
      intro a L d1 x4 x5 x6 x7 ha hL hf
      refine wp_iload_n rfl rfl ?_
      refine wp_aload_n rfl rfl ?_
      refine st_getI rfl fX6_68 rfl (by assumption) (fN hf) ?_
      refine wp_icmp_ge (tgt := 126) rfl (by decide) ?_ ?_
      · intro _
        refine wp_iconst (v := 0) rfl (by decide) ?_
        refine wp_istore_n rfl (by decide) ?_
        exact third L hL (dn L) 0 d1 _ _ _ _ (by omega) hf
      · intro h
        exact absurd (nI_le (by omega) (by omega)) h
    | succ n ih =>
      intro a L d1 x4 x5 x6 x7 ha hL hf
      have haN : a < N := by omega
      have h60 := (hl a haN).2.1
      have h60L := (hl L hL).2.1
      have wl : ∀ L', L' < N → ∀ l w d2 x4 , w + l = (rnS (G a) (dn a)).1 → rFr Y d d2 → rS d2 Y (rnS (G a) (dn a)) → Wp X kX6_agree K z 86 [some (.inr (some Y)), some (.inl (nI L')), some (.inl 1), some (.inl (nI a)), x4, some (.inl (nI w)), x6, x7] [] (K, z, kd, d2, r) Q := by
        intro L' hL' l
        have hwf := rnS_wf (G a) (dn a)
        have hwc := hwf.1.1
        induction l with
        | zero =>
          intro w d2 x4 hw hf2 hR2
          refine wp_iload rfl rfl ?_
          refine wp_aload_n rfl rfl ?_
          refine st_getI rfl fX6_118 rfl (by assumption) (hR2.1) ?_
          refine wp_icmp_ge (tgt := 120) rfl (by decide) ?_ ?_
          · intro _
            refine wp_inc rfl rfl (by decide) ?_
            refine wp_goto (tgt := 6) rfl (by decide) ?_
            exact ih (a + 1) L' d2 _ _ _ _ (by omega) hL' hf2
          · intro h
            exact absurd (nI_le (by omega) (by omega)) h
        | succ l ihl =>
          intro w d2 x4 hw hf2 hR2
          have hwS : w < (rnS (G a) (dn a)).1 := by omega
          have hfr := (sWf_free hwf w hwS).1
          refine wp_iload rfl rfl ?_
          refine wp_aload_n rfl rfl ?_
          refine st_getI rfl fX6_118 rfl (by assumption) (hR2.1) ?_
          refine wp_icmp_ge (tgt := 120) rfl (by decide) ?_ ?_
          · intro h
            exact absurd h (nI_ge hwS (by omega))
          · intro _
            refine wp_iload_n rfl rfl ?_
            refine wp_if_eq (tgt := 112) rfl (by decide) ?_ ?_
            · intro h
              exact absurd h (by decide)
            · intro _
              refine wp_aload_n rfl rfl ?_
              refine wp_iload rfl rfl ?_
              refine wp_V1 rfl mX6_agree_143 (k0) (Nat.le_of_ble_eq_true rfl) (r_free hS hR2 hwf hwS) ?_
              rintro _ _ ⟨rfl, rfl⟩
              refine wp_if_lt (tgt := 112) rfl (by decide) ?_ ?_
              · intro h
                rw [i_lt, show (0 : Int32).toInt = 0 by decide] at h
                omega
              · intro _
                refine wp_iconst (v := 1) rfl (by decide) ?_
                refine wp_goto (tgt := 113) rfl (by decide) ?_
                refine wp_istore_n rfl (by decide) ?_
                refine wp_inc rfl rfl (by decide) ?_
                refine wp_goto (tgt := 86) rfl (by decide) ?_
                exact ihl (w + 1) d2 _ (by omega) hf2 hR2
      have bl : ∀ L', L' < N → ∀ l b x5, b + l = a → Wp X kX6_agree K z 38 [some (.inr (some Y)), some (.inl (nI L')), some (.inl 1), some (.inl (nI a)), some (.inl (nI b)), x5, x6, x7] [] (K, z, kd, d1, r) Q := by
        intro L' hL' l
        induction l with
        | zero =>
          intro b x5 hb
          refine wp_iload rfl rfl ?_
          refine wp_iload_n rfl rfl ?_
          refine wp_icmp_ge (tgt := 70) rfl (by decide) ?_ ?_
          · intro _
            refine wp_aload_n rfl rfl ?_
            refine wp_iload_n rfl rfl ?_
            refine wp_aload_n rfl rfl ?_
            refine st_getR rfl fX6_19 rfl (by assumption) (by assumption) ?_
            refine wp_iload_n rfl rfl ?_
            refine st_iald rfl (by assumption) rfl (by omega) (by first | decide | omega) (fd hf a haN) ?_
            refine wp_V2 rfl mX6_agree_107 (k0) (Nat.le_of_ble_eq_true rfl) (r_replay hS (by omega) h60 (fl hf a haN)) ?_
            rintro _ _ ⟨rfl, d2, rfl, hf2, hR2⟩
            refine wp_istore rfl (by decide) ?_
            refine wp_iconst (v := 0) rfl (by decide) ?_
            refine wp_istore rfl (by decide) ?_
            exact wl L' hL' _ 0 d2 _ (Nat.zero_add _) (rFr_trans hf hf2) hR2
          · intro h
            exact absurd (nI_le (by omega) (by omega)) h
        | succ l ihl =>
          intro b x5 hb
          have hbN : b < N := by omega
          refine wp_iload rfl rfl ?_
          refine wp_iload_n rfl rfl ?_
          refine wp_icmp_ge (tgt := 70) rfl (by decide) ?_ ?_
          · intro h
            exact absurd h (nI_ge (by omega) (by omega))
          · intro _
            refine wp_iload_n rfl rfl ?_
            refine wp_if_eq (tgt := 62) rfl (by decide) ?_ ?_
            · intro h
              exact absurd h (by decide)
            · intro _
              refine wp_aload_n rfl rfl ?_
              refine wp_iload_n rfl rfl ?_
              refine wp_iload rfl rfl ?_
              refine wp_V2 rfl mX6_agree_158 (k0) (Nat.le_of_ble_eq_true rfl) (r_isSame hS (by omega) (by omega) (fd hf a haN) (fd hf b hbN) h60 (hl b hbN).2.1 (fun k hk1 hk2 => by rw [show 420 * a + k = 420 * a + 7 * (k / 7) + k % 7 by omega, show 420 * b + k = 420 * b + 7 * (k / 7) + k % 7 by omega, fl hf a haN (k / 7) (by omega) (k % 7) (by omega), fl hf b hbN (k / 7) (by omega) (k % 7) (by omega)]; exact hA a b haN hbN (k / 7) (by omega) (by omega) (k % 7) (by omega))) ?_
              rintro _ _ ⟨rfl, rfl⟩
              refine wp_if_eq (tgt := 62) rfl (by decide) ?_ ?_
              · intro h
                exact absurd h (by decide)
              · intro _
                refine wp_iconst (v := 1) rfl (by decide) ?_
                refine wp_goto (tgt := 63) rfl (by decide) ?_
                refine wp_istore_n rfl (by decide) ?_
                refine wp_inc rfl rfl (by decide) ?_
                refine wp_goto (tgt := 38) rfl (by decide) ?_
                exact ihl (b + 1) _ (by omega)
      refine wp_iload_n rfl rfl ?_
      refine wp_aload_n rfl rfl ?_
      refine st_getI rfl fX6_68 rfl (by assumption) (fN hf) ?_
      refine wp_icmp_ge (tgt := 126) rfl (by decide) ?_ ?_
      · intro h
        exact absurd h (nI_ge haN (by omega))
      · intro _
        refine wp_aload_n rfl rfl ?_
        refine st_getR rfl fX6_19 rfl (by assumption) (by assumption) ?_
        refine wp_iload_n rfl rfl ?_
        refine st_iald rfl (by assumption) rfl (by omega) (by first | decide | omega) (fd hf a haN) ?_
        refine wp_aload_n rfl rfl ?_
        refine st_getR rfl fX6_19 rfl (by assumption) (by assumption) ?_
        refine wp_iload_n rfl rfl ?_
        refine st_iald rfl (by assumption) rfl (by omega) (by first | decide | omega) (fd hf L hL) ?_
        refine wp_icmp_le (tgt := 33) rfl (by decide) ?_ ?_
        · intro _
          refine wp_iload_n rfl rfl ?_
          refine wp_istore_n rfl (by decide) ?_
          refine wp_iconst (v := 0) rfl (by decide) ?_
          refine wp_istore rfl (by decide) ?_
          exact bl L hL a 0 _ (by omega)
        · intro _
          refine wp_iload_n rfl rfl ?_
          refine wp_goto (tgt := 34) rfl (by decide) ?_
          refine wp_istore_n rfl (by decide) ?_
          refine wp_iconst (v := 0) rfl (by decide) ?_
          refine wp_istore rfl (by decide) ?_
          exact bl a haN a 0 _ (by omega)
  refine wp_iconst (v := 0) rfl (by decide) ?_
  refine wp_istore_n rfl (by decide) ?_
  refine wp_iconst (v := 1) rfl (by decide) ?_
  refine wp_istore_n rfl (by decide) ?_
  refine wp_iconst (v := 0) rfl (by decide) ?_
  refine wp_istore_n rfl (by decide) ?_
  exact first N 0 0 d none none none none (by omega) (by omega) (rFr_refl _ _)
end RORD
