/-! THE CALLS KEEP THE INVARIANT -/
def Inv (N : Nat) (A : PS) : Prop := Iv N (pv A) (pn A) (pl A) (pd A) (pg A)
/-- what was done stays -/
def St (N : Nat) (A A' : PS) : Prop := ∀ i, i < N → pd A i ≤ pd A' i ∧ ∀ k, k < pd A i → pg A' i k = pg A i k
theorem St.refl (N : Nat) (A : PS) : St N A A := fun i _ => ⟨Nat.le_refl _, fun k _ => rfl⟩
theorem St.trans {N : Nat} {A B C : PS} (h1 : St N A B) (h2 : St N B C) : St N A C := fun i hi => ⟨Nat.le_trans (h1 i hi).1 (h2 i hi).1, fun k hk => ((h2 i hi).2 k (Nat.lt_of_lt_of_le hk (h1 i hi).1)).trans ((h1 i hi).2 k hk)⟩
theorem hu1_id {α : Type} (f : Nat → α) (j : Nat) : hu1 f j (f j) = f := by
  funext i
  simp only [hu1]
  split
  · rename_i e; rw [e]
  · rfl
theorem pJo_eq (A : PS) (j v : Nat) : pJo A j v = (hu1 (pv A) j (if pv A j < v then v else pv A j), pn A, pl A, pd A, pg A, pL A, pB A) := by
  unfold pJo
  split
  · simp only [pSet, hu1_id]
  · rw [hu1_id]
section INVPS
variable {N m j W : Nat} {A : PS} {rch : Nat → Prop}
theorem inv_fo (h : Inv N A) (hm : m < N) (hj : j < N) (hne : j ≠ m) (hnm : pn A m = pv A m) (hld : pv A m % N = m) (hle : pv A j ≤ pv A m) : Inv N (pFo A m j) ∧ St N A (pFo A m j) := by
  obtain ⟨h1, h2, h3⟩ := iv_follow (v' := pv (pFo A m j)) (n' := pn (pFo A m j)) (l' := pl (pFo A m j)) (d' := pd (pFo A m j)) (g' := pg (pFo A m j)) h hm hj hne hnm hld hle (fun i hi => ⟨hu1_n hi, hu1_n hi, hu1_n hi, hu1_n hi, hu1_n hi⟩) ⟨hu1_s, hu1_s, hu1_s, hu1_s, hu1_s⟩
  refine ⟨h1, fun i hi => ?_⟩
  by_cases e : i = j
  · subst e; exact ⟨h2, h3⟩
  · show pd A i ≤ hu1 (pd A) j _ i ∧ ∀ k, k < pd A i → hu1 (pg A) j _ i k = pg A i k
    rw [hu1_n e, hu1_n e]
    exact ⟨Nat.le_refl _, fun k _ => rfl⟩
theorem pSp_inv (hm : m < N) (hr : ∀ i, rch i → i ≠ m) : ∀ (n j : Nat) (A : PS) (t : Nat) (f : Nat → Bool), Inv N A → j + n = N → pn A m = pv A m → pv A m % N = m → (∀ i, i < N → pv A i ≤ W) → cB f N = t → f m = true → (∀ q, q < N → f q = true → pv A q = pv A m ∧ pn A q = pv A m ∧ pl A q = pl A m ∧ pg A q = pg A m) → (∀ q, f q = true → q = m ∨ q < j) →
    Inv N (pSp N rch m n j A t) ∧ St N A (pSp N rch m n j A t) ∧ (∀ i, i < N → pv (pSp N rch m n j A t) i ≤ W) ∧ pB (pSp N rch m n j A t) + pL (pSp N rch m n j A t) = pB A + pL A ∧ pl (pSp N rch m n j A t) m = pl A m ∧ pg (pSp N rch m n j A t) m = pg A m := by
  intro n
  induction n with
  | zero => intro j A t f h _ _ _ hW _ _ _ _; exact ⟨h, St.refl _ _, hW, rfl, rfl, rfl⟩
  | succ n ih =>
    intro j A t f h hj hnm hld hW hc hfm hf hfj
    have hjN : j < N := by omega
    rcases Classical.em (rch j) with hrj | hrj
    · have hne := hr j hrj
      rw [show pSp N rch m (n + 1) j A t = _ from cIf_t hrj]
      by_cases h0 : pL A = 0
      · rw [if_pos h0]
        exact ⟨h, St.refl _ _, hW, rfl, rfl, rfl⟩
      · rw [if_neg h0]
        have hbr : pB (pBr A) + pL (pBr A) = pB A + pL A := by show pB A + 1 + (pL A - 1) = pB A + pL A; omega
        by_cases hle : pv (pBr A) j ≤ pv (pBr A) m
        · rw [if_pos hle]
          obtain ⟨f1, f2⟩ := inv_fo (A := pBr A) h hm hjN hne hnm hld hle
          have ef : ∀ i, i ≠ j → pv (pFo (pBr A) m j) i = pv A i ∧ pn (pFo (pBr A) m j) i = pn A i ∧ pl (pFo (pBr A) m j) i = pl A i ∧ pg (pFo (pBr A) m j) i = pg A i := fun i hi => ⟨hu1_n hi, hu1_n hi, hu1_n hi, hu1_n hi⟩
          have ej : pv (pFo (pBr A) m j) j = pv A m ∧ pn (pFo (pBr A) m j) j = pv A m ∧ pl (pFo (pBr A) m j) j = pl A m ∧ pg (pFo (pBr A) m j) j = pg A m := ⟨hu1_s, hu1_s, hu1_s, hu1_s⟩
          have eb : pB (pFo (pBr A) m j) + pL (pFo (pBr A) m j) = pB A + pL A := hbr
          generalize hB : pFo (pBr A) m j = B at f1 f2 ef ej eb ⊢
          have em := ef m (fun e => hne e.symm)
          have hWB : ∀ i, i < N → pv B i ≤ W := fun i hi => by
            by_cases e : i = j
            · subst e; rw [ej.1]; exact hW m hm
            · rw [(ef i e).1]; exact hW i hi
          have stB : St N A B := f2
          by_cases h00 : pL B = 0
          · rw [if_pos h00]
            exact ⟨f1, stB, hWB, eb, em.2.2.1, em.2.2.2⟩
          · rw [if_neg h00]
            have hfjf : f j = false := by
              cases hq : f j with
              | false => rfl
              | true => rcases hfj j hq with q | q
                        · exact absurd q hne
                        · omega
            have hcB : cB (hu1 f j true) N = t + 1 := by rw [cB_set hfjf, if_pos hjN, hc]
            have hfB : ∀ q, q < N → hu1 f j true q = true → pv B q = pv B m ∧ pn B q = pv B m ∧ pl B q = pl B m ∧ pg B q = pg B m := fun q hq hfq => by
              rw [em.1, em.2.2.1, em.2.2.2]
              by_cases e : q = j
              · subst e; exact ej
              · rw [(ef q e).1, (ef q e).2.1, (ef q e).2.2.1, (ef q e).2.2.2]
                rw [hu1_n e] at hfq
                exact hf q hq hfq
            have hfmB : hu1 f j true m = true := by rw [hu1_n (fun e => hne e.symm)]; exact hfm
            have hfjB : ∀ q, hu1 f j true q = true → q = m ∨ q < j + 1 := fun q hq => by
              by_cases e : q = j
              · exact Or.inr (by omega)
              · rw [hu1_n e] at hq
                rcases hfj q hq with y | y
                · exact Or.inl y
                · exact Or.inr (by omega)
            have hnmB : pn B m = pv B m := by rw [em.1, em.2.1]; exact hnm
            have hldB : pv B m % N = m := by rw [em.1]; exact hld
            have hbr2 : pB (pBr B) + pL (pBr B) = pB A + pL A := by rw [← eb]; show pB B + 1 + (pL B - 1) = pB B + pL B; omega
            by_cases hmaj : N < (t + 1) * 2
            · rw [if_pos hmaj]
              have d1 : Inv N (pDo (pBr B) m) := by
                have := iv_commit (d' := hu1 (pd B) m (pl B m)) f1 hm hnmB hldB (f := hu1 f j true) (by rw [hcB]; omega) hfB (fun i hi => hu1_n hi) hu1_s
                unfold Inv pDo
                simp only [pSet, hu1_id]
                exact this
              have ed : pv (pDo (pBr B) m) = pv B ∧ pn (pDo (pBr B) m) = pn B ∧ pl (pDo (pBr B) m) = pl B ∧ pg (pDo (pBr B) m) = pg B := ⟨hu1_id _ _, hu1_id _ _, hu1_id _ _, hu1_id _ _⟩
              have d2 : St N B (pDo (pBr B) m) := fun i hi => by
                refine ⟨?_, fun k _ => by rw [ed.2.2.2]⟩
                show pd B i ≤ hu1 (pd B) m (pl B m) i
                by_cases e : i = m
                · subst e; rw [hu1_s]; exact (f1.1 i hi).2.1
                · rw [hu1_n e]; exact Nat.le_refl _
              have hbr3 : pB (pDo (pBr B) m) + pL (pDo (pBr B) m) = pB A + pL A := hbr2
              obtain ⟨r1, r2, r3, r4, r5, r6⟩ := ih (j + 1) (pDo (pBr B) m) (t + 1) (hu1 f j true) d1 (by omega) (by rw [ed.1, ed.2.1]; exact hnmB) (by rw [ed.1]; exact hldB) (by rw [ed.1]; exact hWB) hcB hfmB (by rw [ed.1, ed.2.1, ed.2.2.1, ed.2.2.2]; exact hfB) hfjB
              refine ⟨r1, (stB.trans d2).trans r2, r3, r4.trans hbr3, r5.trans ?_, r6.trans ?_⟩
              · rw [ed.2.2.1]; exact em.2.2.1
              · rw [ed.2.2.2]; exact em.2.2.2
            · rw [if_neg hmaj]
              obtain ⟨r1, r2, r3, r4, r5, r6⟩ := ih (j + 1) (pBr B) (t + 1) (hu1 f j true) f1 (by omega) hnmB hldB hWB hcB hfmB hfB hfjB
              exact ⟨r1, stB.trans r2, r3, r4.trans hbr2, r5.trans em.2.2.1, r6.trans em.2.2.2⟩
        · rw [if_neg hle]
          obtain ⟨r1, r2, r3, r4, r5, r6⟩ := ih (j + 1) (pBr A) t f h (by omega) hnm hld hW hc hfm hf (fun q hq => by have := hfj q hq; omega)
          exact ⟨r1, r2, r3, r4.trans hbr, r5, r6⟩
    · rw [show pSp N rch m (n + 1) j A t = _ from cIf_f hrj]
      exact ih (j + 1) A t f h (by omega) hnm hld hW hc hfm hf (fun q hq => by have := hfj q hq; omega)
theorem pAn_inv (hm : m < N) (hr : ∀ i, rch i → i ≠ m) : ∀ (n j : Nat) (A : PS), Inv N A → j + n = N → pn A m = pv A m → pv A m % N = m → (∀ i, i < N → pv A i ≤ W) →
    Inv N (pAn rch m n j A) ∧ St N A (pAn rch m n j A) ∧ (∀ i, i < N → pv (pAn rch m n j A) i ≤ W) ∧ pB (pAn rch m n j A) + pL (pAn rch m n j A) = pB A + pL A ∧ pv (pAn rch m n j A) m = pv A m := by
  intro n
  induction n with
  | zero => intro j A h _ _ _ hW; exact ⟨h, St.refl _ _, hW, rfl, rfl⟩
  | succ n ih =>
    intro j A h hj hnm hld hW
    have hjN : j < N := by omega
    rcases Classical.em (rch j) with hrj | hrj
    · have hne := hr j hrj
      rw [show pAn rch m (n + 1) j A = _ from cIf_t hrj]
      by_cases h0 : pL A = 0
      · rw [if_pos h0]
        exact ⟨h, St.refl _ _, hW, rfl, rfl⟩
      · rw [if_neg h0]
        have hbr : pB (pBr A) + pL (pBr A) = pB A + pL A := by show pB A + 1 + (pL A - 1) = pB A + pL A; omega
        by_cases hle : pv (pBr A) j ≤ pv (pBr A) m
        · rw [if_pos hle]
          obtain ⟨f1, f2⟩ := inv_fo (A := pBr A) h hm hjN hne hnm hld hle
          have ef : ∀ i, i ≠ j → pv (pFo (pBr A) m j) i = pv A i ∧ pn (pFo (pBr A) m j) i = pn A i := fun i hi => ⟨hu1_n hi, hu1_n hi⟩
          have ej : pv (pFo (pBr A) m j) j = pv A m := hu1_s
          have eb : pB (pFo (pBr A) m j) + pL (pFo (pBr A) m j) = pB A + pL A := hbr
          generalize hB : pFo (pBr A) m j = B at f1 f2 ef ej eb ⊢
          have em := ef m (fun e => hne e.symm)
          obtain ⟨r1, r2, r3, r4, r5⟩ := ih (j + 1) B f1 (by omega) (by rw [em.1, em.2]; exact hnm) (by rw [em.1]; exact hld) (fun i hi => by
            by_cases e : i = j
            · subst e; rw [ej]; exact hW m hm
            · rw [(ef i e).1]; exact hW i hi)
          have stB : St N A B := f2
          exact ⟨r1, stB.trans r2, r3, r4.trans eb, r5.trans em.1⟩
        · rw [if_neg hle]
          obtain ⟨r1, r2, r3, r4, r5⟩ := ih (j + 1) (pBr A) h (by omega) hnm hld hW
          exact ⟨r1, r2, r3, r4.trans hbr, r5⟩
    · rw [show pAn rch m (n + 1) j A = _ from cIf_f hrj]
      exact ih (j + 1) A h (by omega) hnm hld hW
/-- who is together, and the best of them -/
def Tog (N m V : Nat) (A : PS) (f : Nat → Bool) (b e : Nat) : Prop :=
  f m = true ∧ (∀ q, q < N → f q = true → pv A q = V ∧ pn A q < V) ∧ b < N ∧ f b = true ∧ (∀ q, q < N → f q = true → pn A q < pn A b ∨ pn A q = pn A b ∧ pl A q ≤ pl A b) ∧ (∀ q, q < N → f q = true → pd A q ≤ e) ∧ (∃ q, q < N ∧ f q = true ∧ pd A q = e)
/-- but for views and messages, all is as it was -/
def Sm (A A' : PS) : Prop := pn A' = pn A ∧ pl A' = pl A ∧ pd A' = pd A ∧ pg A' = pg A
theorem pGa_inv (hm : m < N) (hr : ∀ i, rch i → i ≠ m) {V : Nat} (hVW : V ≤ W) : ∀ (n j : Nat) (A : PS) (b e t : Nat) (f : Nat → Bool), Inv N A → j + n = N → pv A m = V → (∀ i, i < N → pv A i ≤ W) → cB f N = t → Tog N m V A f b e → (∀ q, f q = true → q = m ∨ q < j) →
    ∀ A' r, pGa N rch V n j A b e t = (A', r) → Inv N A' ∧ Sm A A' ∧ (∀ i, i < N → pv A' i ≤ W) ∧ pB A' + pL A' = pB A + pL A ∧ pv A' m = V ∧ ∀ b' e', r = some (b', e') → ∃ f', N < 2 * cB f' N ∧ Tog N m V A' f' b' e' := by
  intro n
  induction n with
  | zero =>
    intro j A b e t f h _ hV hW hc hT _ A' r hp
    simp only [pGa, Prod.mk.injEq] at hp
    obtain ⟨rfl, rfl⟩ := hp
    refine ⟨h, ⟨rfl, rfl, rfl, rfl⟩, hW, rfl, hV, fun b' e' hq => ?_⟩
    split at hq
    · cases hq
      exact ⟨f, by omega, hT⟩
    · cases hq
  | succ n ih =>
    intro j A b e t f h hj hV hW hc hT hfj A' r hp
    have hjN : j < N := by omega
    simp only [pGa] at hp
    by_cases hmj : N < t * 2
    · rw [if_pos hmj] at hp
      cases hp
      refine ⟨h, ⟨rfl, rfl, rfl, rfl⟩, hW, rfl, hV, fun b' e' hq => ?_⟩
      cases hq
      exact ⟨f, by omega, hT⟩
    · rw [if_neg hmj] at hp
      have hfj' : ∀ q, f q = true → q = m ∨ q < j + 1 := fun q hq => by
        rcases hfj q hq with y | y
        · exact Or.inl y
        · exact Or.inr (by omega)
      rcases Classical.em (rch j) with hrj | hrj
      · have hne := hr j hrj
        rw [cIf_t hrj] at hp
        by_cases h0 : pL A = 0
        · rw [if_pos h0] at hp
          cases hp
          exact ⟨h, ⟨rfl, rfl, rfl, rfl⟩, hW, rfl, hV, fun b' e' hq => by cases hq⟩
        · rw [if_neg h0] at hp
          have eB := pJo_eq (pBr A) j V
          have hfjf : f j = false := by
            cases hq : f j with
            | false => rfl
            | true => rcases hfj j hq with q | q
                      · exact absurd q hne
                      · omega
          have vj : pv (pJo (pBr A) j V) j = if pv A j < V then V else pv A j := by rw [eB]; exact hu1_s
          have vi : ∀ i, i ≠ j → pv (pJo (pBr A) j V) i = pv A i := fun i hi => by rw [eB]; exact hu1_n hi
          have sm : Sm A (pJo (pBr A) j V) := by rw [eB]; exact ⟨rfl, rfl, rfl, rfl⟩
          have bl : pB (pJo (pBr A) j V) + pL (pJo (pBr A) j V) = pB A + pL A := by rw [eB]; show pB A + 1 + (pL A - 1) = pB A + pL A; omega
          generalize hB : pJo (pBr A) j V = B at hp vj vi sm bl
          have em : pv B m = V := by rw [vi m (fun e => hne e.symm)]; exact hV
          have hWB : ∀ i, i < N → pv B i ≤ W := fun i hi => by
            by_cases q : i = j
            · subst q; rw [vj]; split
              · exact hVW
              · exact hW i hi
            · rw [vi i q]; exact hW i hi
          have hInvB : Inv N B := by
            have : Iv N (pv B) (pn A) (pl A) (pd A) (pg A) := iv_raise h (fun i hi => by
              by_cases q : i = j
              · subst q; rw [vj]; split <;> omega
              · rw [vi i q]; exact Nat.le_refl _)
            obtain ⟨s1, s2, s3, s4⟩ := sm
            unfold Inv
            rw [s1, s2, s3, s4]
            exact this
          obtain ⟨s1, s2, s3, s4⟩ := id sm
          obtain ⟨t1, t2, t3, t4, t5, t6, t7⟩ := hT
          have hTB : Tog N m V B f b e := by
            refine ⟨t1, fun q hq hfq => ?_, t3, t4, ?_, ?_, ?_⟩
            · have hqj : q ≠ j := fun y => by rw [y, hfjf] at hfq; cases hfq
              rw [vi q hqj, s1]
              exact t2 q hq hfq
            · rw [s1, s2]; exact t5
            · rw [s3]; exact t6
            · rw [s3]; exact t7
          by_cases hjo : pv B j = V ∧ ¬ pn B j = pv B j
          · rw [if_pos hjo] at hp
            by_cases h00 : pL B = 0
            · rw [if_pos h00] at hp
              cases hp
              exact ⟨hInvB, sm, hWB, bl, em, fun b' e' hq => by cases hq⟩
            · rw [if_neg h00] at hp
              have hbr2 : pB (pBr B) + pL (pBr B) = pB A + pL A := by rw [← bl]; show pB B + 1 + (pL B - 1) = pB B + pL B; omega
              have hnj : pn B j < V := by
                have := (hInvB.1 j hjN).1
                omega
              have hTB2 : Tog N m V (pBr B) (hu1 f j true) (if pn B b < pn B j ∨ pn B j = pn B b ∧ pl B b < pl B j then j else b) (if e < pd B j then pd B j else e) := by
                obtain ⟨u1, u2, u3, u4, u5, u6, u7⟩ := hTB
                have fq : ∀ q, q ≠ j → hu1 f j true q = true → f q = true := fun q hq hfq => by rw [hu1_n hq] at hfq; exact hfq
                have hbj : b ≠ j := fun y => by rw [y, hfjf] at u4; cases u4
                refine ⟨by rw [hu1_n (fun y => hne y.symm)]; exact u1, fun q hq hfq => ?_, ?_, ?_, fun q hq hfq => ?_, fun q hq hfq => ?_, ?_⟩
                · by_cases y : q = j
                  · subst y; exact ⟨hjo.1, hnj⟩
                  · exact u2 q hq (fq q y hfq)
                · split
                  · exact hjN
                  · exact u3
                · split
                  · exact hu1_s
                  · rw [hu1_n hbj]; exact u4
                · show pn B q < pn B _ ∨ pn B q = pn B _ ∧ pl B q ≤ pl B _
                  by_cases hbt : pn B b < pn B j ∨ pn B j = pn B b ∧ pl B b < pl B j
                  · rw [if_pos hbt]
                    by_cases y : q = j
                    · subst y; exact Or.inr ⟨rfl, Nat.le_refl _⟩
                    · have := u5 q hq (fq q y hfq)
                      omega
                  · rw [if_neg hbt]
                    by_cases y : q = j
                    · subst y; omega
                    · exact u5 q hq (fq q y hfq)
                · show pd B q ≤ _
                  by_cases y : q = j
                  · subst y; split <;> omega
                  · have := u6 q hq (fq q y hfq)
                    split <;> omega
                · by_cases hed : e < pd B j
                  · rw [if_pos hed]
                    exact ⟨j, hjN, hu1_s, rfl⟩
                  · rw [if_neg hed]
                    obtain ⟨q, q1, q2, q3⟩ := u7
                    have hqj : q ≠ j := fun y => by rw [y, hfjf] at q2; cases q2
                    exact ⟨q, q1, by rw [hu1_n hqj]; exact q2, q3⟩
              obtain ⟨r1, r2, r3, r4, r5, r6⟩ := ih (j + 1) (pBr B) _ _ (t + 1) (hu1 f j true) hInvB (by omega) em hWB (by rw [cB_set hfjf, if_pos hjN, hc]) hTB2 (fun q hq => by
                by_cases y : q = j
                · exact Or.inr (by omega)
                · rw [hu1_n y] at hq
                  exact hfj' q hq) A' r hp
              exact ⟨r1, ⟨r2.1.trans s1, r2.2.1.trans s2, r2.2.2.1.trans s3, r2.2.2.2.trans s4⟩, r3, r4.trans hbr2, r5, r6⟩
          · rw [if_neg hjo] at hp
            obtain ⟨r1, r2, r3, r4, r5, r6⟩ := ih (j + 1) B b e t f hInvB (by omega) em hWB hc hTB hfj' A' r hp
            exact ⟨r1, ⟨r2.1.trans s1, r2.2.1.trans s2, r2.2.2.1.trans s3, r2.2.2.2.trans s4⟩, r3, r4.trans bl, r5, r6⟩
      · rw [cIf_f hrj] at hp
        exact ih (j + 1) A b e t f h (by omega) hV hW hc hT hfj' A' r hp
theorem St_of_Sm {A A' : PS} (h : Sm A A') : St N A A' := fun i _ => ⟨by rw [h.2.2.1]; exact Nat.le_refl _, fun k _ => by rw [h.2.2.2]⟩
/-- a change of view keeps it all -/
theorem inv_change (hN : N = 3 ∨ N = 5) (h : Inv N A) (hm : m < N) (hr : ∀ i, rch i → i ≠ m) (hW : ∀ i, i < N → pv A i ≤ W) {c : Nat} : Inv N (pCh N rch m c A).1 ∧ St N A (pCh N rch m c A).1 ∧ (∀ i, i < N → pv (pCh N rch m c A).1 i ≤ W + 5) ∧ pB (pCh N rch m c A).1 + pL (pCh N rch m c A).1 = pB A + c ∧ ((pGl N rch m (pVw (pMs A c) m (nxV N m (pv A m)))).2 = true → pv (pCh N rch m c A).1 m = nxV N m (pv A m)) ∧ (¬ (pGl N rch m (pVw (pMs A c) m (nxV N m (pv A m)))).2 = true → Sm A (pCh N rch m c A).1) := by
  have hV1 : nxV N m (pv A m) ≤ W + 5 := by
    have := nxV_le (N := N) (m := m) (v := pv A m) hN
    have := hW m hm
    omega
  have hgt := nxV_gt (N := N) (m := m) (v := pv A m)
  have hmod := nxV_mod (N := N) (m := m) (v := pv A m) hN hm
  have hnv := (h.1 m hm).1
  unfold pCh
  have e0 : pVw (pMs A c) m (nxV N m (pv A m)) = (hu1 (pv A) m (nxV N m (pv A m)), pn A, pl A, pd A, pg A, c, pB A) := by
    simp only [pVw, pSet, pMs, hu1_id]
  generalize hV : nxV N m (pv A m) = V at *
  rw [e0]
  generalize hA0 : ((hu1 (pv A) m V, pn A, pl A, pd A, pg A, c, pB A) : PS) = A0
  have a1 : pv A0 = hu1 (pv A) m V := by rw [← hA0]
  have sm0 : Sm A A0 := by rw [← hA0]; exact ⟨rfl, rfl, rfl, rfl⟩
  have bl0 : pB A0 + pL A0 = pB A + c := by rw [← hA0]
  have hvm : pv A0 m = V := by rw [a1]; exact hu1_s
  have hI0 : Inv N A0 := by
    unfold Inv
    rw [a1, sm0.1, sm0.2.1, sm0.2.2.1, sm0.2.2.2]
    exact iv_raise h (fun i _ => by
      by_cases e : i = m
      · subst e; rw [hu1_s]; omega
      · rw [hu1_n e]; exact Nat.le_refl _)
  have hW0 : ∀ i, i < N → pv A0 i ≤ W + 5 := fun i hi => by
    rw [a1]
    by_cases e : i = m
    · subst e; rw [hu1_s]; exact hV1
    · rw [hu1_n e]; have := hW i hi; omega
  have hf0 : cB (hu1 (fun _ => false) m true) N = 1 := by
    rw [cB_set rfl, if_pos hm]
    have : ∀ n, cB (fun _ => false) n = 0 := fun n => by
      induction n with
      | zero => rfl
      | succ n ih => simp only [cB, ih]; rfl
    rw [this]
  have honly : ∀ q, hu1 (fun _ => false) m true q = true → q = m := fun q hq => by
    by_cases y : q = m
    · exact y
    · rw [hu1_n y] at hq; cases hq
  have hT0 : Tog N m V A0 (hu1 (fun _ => false) m true) m (pd A0 m) := by
    refine ⟨hu1_s, fun q _ hfq => ?_, hm, hu1_s, fun q _ hfq => ?_, fun q _ hfq => ?_, ⟨m, hm, hu1_s, rfl⟩⟩
    · rw [honly q hfq]
      exact ⟨hvm, by rw [sm0.1]; omega⟩
    · rw [honly q hfq]
      exact Or.inr ⟨rfl, Nat.le_refl _⟩
    · rw [honly q hfq]
      exact Nat.le_refl _
  unfold pGl
  rw [hvm]
  cases hp : pGa N rch V N 0 A0 m (pd A0 m) 1 with
  | mk A' r =>
    obtain ⟨r1, r2, r3, r4, r5, r6⟩ := pGa_inv hm hr hV1 N 0 A0 m (pd A0 m) 1 _ hI0 (by omega) hvm hW0 hf0 hT0 (fun q hq => Or.inl (honly q hq)) A' r hp
    have st1 : St N A A' := St_of_Sm ⟨r2.1.trans sm0.1, r2.2.1.trans sm0.2.1, r2.2.2.1.trans sm0.2.2.1, r2.2.2.2.trans sm0.2.2.2⟩
    cases r with
    | none =>
      dsimp only
      rw [if_neg (by decide)]
      exact ⟨r1, st1, r3, r4.trans bl0, fun q => absurd q (by decide), fun _ => ⟨r2.1.trans sm0.1, r2.2.1.trans sm0.2.1, r2.2.2.1.trans sm0.2.2.1, r2.2.2.2.trans sm0.2.2.2⟩⟩
    | some be =>
      obtain ⟨b, e⟩ := be
      obtain ⟨f, hmaj, t1, t2, t3, t4, t5, t6, t7⟩ := r6 b e rfl
      dsimp only
      rw [if_pos rfl]
      obtain ⟨l1, l2, l3⟩ := iv_lead (n' := hu1 (pn A') m (pv A' m)) (l' := hu1 (pl A') m (pl A' b)) (d' := hu1 (pd A') m e) (g' := hu1 (pg A') m (pg A' b)) r1 hm (by rw [r5]; exact hmod) hmaj (by rw [r5]; exact t2) t1 t3 t4 t5 t6 t7 (fun i hi => ⟨hu1_n hi, hu1_n hi, hu1_n hi, hu1_n hi⟩) ⟨hu1_s, hu1_s, hu1_s, hu1_s⟩
      have eL : pLe A' m b e = (pv A', hu1 (pn A') m (pv A' m), hu1 (pl A') m (pl A' b), hu1 (pd A') m e, hu1 (pg A') m (pg A' b), pL A', pB A') := by
        simp only [pLe, pSet, hu1_id]
      rw [eL]
      generalize hB : ((pv A', hu1 (pn A') m (pv A' m), hu1 (pl A') m (pl A' b), hu1 (pd A') m e, hu1 (pg A') m (pg A' b), pL A', pB A') : PS) = B
      have q1 : pv B = pv A' := by rw [← hB]
      have q2 : pn B m = pv A' m := by rw [← hB]; exact hu1_s
      have q3 : pB B + pL B = pB A' + pL A' := by rw [← hB]
      have iB : Inv N B := by rw [← hB]; exact l1
      have sB : St N A' B := fun i hi => by
        rw [← hB]
        show pd A' i ≤ hu1 (pd A') m e i ∧ ∀ k, k < pd A' i → hu1 (pg A') m (pg A' b) i k = pg A' i k
        by_cases y : i = m
        · subst y; exact ⟨l2, l3⟩
        · rw [hu1_n y, hu1_n y]; exact ⟨Nat.le_refl _, fun k _ => rfl⟩
      obtain ⟨n1, n2, n3, n4, n5⟩ := pAn_inv (W := W + 5) hm hr N 0 B iB (by omega) (by rw [q1, q2]) (by rw [q1, r5]; exact hmod) (by rw [q1]; exact r3)
      exact ⟨n1, (st1.trans sB).trans n2, n3, (n4.trans q3).trans (r4.trans bl0), fun _ => by rw [n5, q1]; exact r5, fun q => absurd rfl q⟩
/-- a new order keeps it all -/
theorem inv_order {c : Nat} {o : Nat → Int32} (h : Inv N A) (hm : m < N) (hN1 : 1 < N) (hr : ∀ i, rch i → i ≠ m) (hW : ∀ i, i < N → pv A i ≤ W) (hnm : pv A m = pn A m) (hld : pv A m % N = m) (h60 : pl A m < 60) (hnew : ∀ k, k < pl A m → pg A m k 0 = o 0 → pg A m k 1 < o 1) : Inv N (pOr N rch m c o A) ∧ St N A (pOr N rch m c o A) ∧ (∀ i, i < N → pv (pOr N rch m c o A) i ≤ W) ∧ pB (pOr N rch m c o A) + pL (pOr N rch m c o A) = pB A + c ∧ pl (pOr N rch m c o A) m = pl A m + 1 ∧ pg (pOr N rch m c o A) m = (fun k => if k = pl A m then o else pg A m k) := by
  unfold pOr
  have e0 : pMs (pAp A m o) c = (pv A, pn A, hu1 (pl A) m (pl A m + 1), pd A, hu1 (pg A) m (fun k => if k = pl A m then o else pg A m k), c, pB A) := by
    simp only [pAp, pSet, pMs, hu1_id]
  rw [e0]
  generalize hA0 : ((pv A, pn A, hu1 (pl A) m (pl A m + 1), pd A, hu1 (pg A) m (fun k => if k = pl A m then o else pg A m k), c, pB A) : PS) = A0
  have a1 : pv A0 = pv A := by rw [← hA0]
  have a2 : pn A0 = pn A := by rw [← hA0]
  have a3 : pl A0 m = pl A m + 1 := by rw [← hA0]; exact hu1_s
  have a4 : pB A0 + pL A0 = pB A + c := by rw [← hA0]
  have a5 : pg A0 m = (fun k => if k = pl A m then o else pg A m k) := by rw [← hA0]; exact hu1_s
  have hI0 : Inv N A0 := by
    rw [← hA0]
    exact iv_append h hm hnm.symm hld h60 hnew (fun i hi => ⟨hu1_n hi, hu1_n hi⟩) ⟨hu1_s, fun k hk => by dsimp only [pg]; rw [hu1_s, if_neg hk], by dsimp only [pg]; rw [hu1_s, if_pos rfl]⟩
  have st0 : St N A A0 := fun i hi => by
    rw [← hA0]
    refine ⟨Nat.le_refl _, fun k hk => ?_⟩
    show hu1 (pg A) m _ i k = pg A i k
    by_cases y : i = m
    · subst y
      rw [hu1_s, if_neg (by have := (h.1 i hi).2.1; omega)]
    · rw [hu1_n y]
  have hf0 : cB (hu1 (fun _ => false) m true) N = 1 := by
    rw [cB_set rfl, if_pos hm]
    have : ∀ n, cB (fun _ => false) n = 0 := fun n => by
      induction n with
      | zero => rfl
      | succ n ih => simp only [cB, ih]; rfl
    rw [this]
  have honly : ∀ q, hu1 (fun _ => false) m true q = true → q = m := fun q hq => by
    by_cases y : q = m
    · exact y
    · rw [hu1_n y] at hq; cases hq
  obtain ⟨r1, r2, r3, r4, r5, r6⟩ := pSp_inv (W := W) hm hr N 0 A0 1 _ hI0 (by omega) (by rw [a1, a2]; exact hnm.symm) (by rw [a1]; exact hld) (by rw [a1]; exact hW) hf0 hu1_s (fun q _ hfq => by rw [honly q hfq, a1, a2]; exact ⟨rfl, hnm.symm, rfl, rfl⟩) (fun q hq => Or.inl (honly q hq))
  exact ⟨r1, st0.trans r2, r3, r4.trans a4, r5.trans a3, r6.trans a5⟩
end INVPS
