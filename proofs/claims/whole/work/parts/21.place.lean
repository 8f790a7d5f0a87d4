/-! THE CLASS'S SCHEDULER: best fit, giving way -/
theorem dec_e (x : Int32) : x + Int32.ofInt (-1) = x - 1 := by
  rw [Int32.sub_eq_add_neg]
  rfl
theorem pred_e (m : Nat) : nI (m + 1) - 1 = nI m := nI_pred m
theorem pred_lt : (nI 0 - 1 : Int32) < 0 := by decide
/-- how many t < n have P -/
def cnt (P : Nat → Prop) [DecidablePred P] : Nat → Nat
  | 0 => 0
  | n + 1 => cnt P n + (if P n then 1 else 0)
theorem cnt_le (P : Nat → Prop) [DecidablePred P] (n : Nat) : cnt P n ≤ n := by
  induction n with
  | zero => exact Nat.le_refl _
  | succ n ih =>
    simp only [cnt]
    split <;> omega
theorem cnt_or (P Q R : Nat → Prop) [DecidablePred P] [DecidablePred Q] [DecidablePred R] (h1 : ∀ t, P t → R t) (h2 : ∀ t, Q t → R t) (h3 : ∀ t, P t → Q t → False) (n : Nat) : cnt P n + cnt Q n ≤ cnt R n := by
  induction n with
  | zero => exact Nat.le_refl _
  | succ n ih =>
    simp only [cnt]
    by_cases p : P n
    · have q : ¬ Q n := fun q => h3 n p q
      rw [if_pos p, if_neg q, if_pos (h1 n p)]
      omega
    · by_cases q : Q n
      · rw [if_neg p, if_pos q, if_pos (h2 n q)]
        omega
      · rw [if_neg p, if_neg q]
        split <;> omega
def sBest (cap : Nat → Int32) (g : Nat → Nat → Int32) (tc : Nat) (need : Int32) : Nat → Int32 × Int32
  | 0 => (-1, 21)
  | w + 1 => if ¬ sFree (cap w) g (nI w) tc < need ∧ ¬ (sBest cap g tc need w).2 ≤ sFree (cap w) g (nI w) tc then (nI w, sFree (cap w) g (nI w) tc) else sBest cap g tc need w
def sIn (g : Nat → Nat → Int32) (w q nd : Int32) : Nat → Int32 × List Nat → Int32 × List Nat
  | 0, s => s
  | k + 1, s => if nd ≤ s.1 then s else if g k 6 = w ∧ g k 2 = q then sIn g w q nd k (s.1 + g k 1, s.2 ++ [k]) else sIn g w q nd k s
def sOut (g : Nat → Nat → Int32) (w nd : Int32) (tc : Nat) (free : Int32) : Nat → Int32 × List Nat
  | 0 => (free, [])
  | q + 1 => sIn g w (nI q) nd tc (sOut g w nd tc free q)
/-- how many must give way on worker w for task t; 21: even all are not enough -/
def sNote (g : Nat → Nat → Int32) (w nd : Int32) (tc : Nat) (free : Int32) (pq : Nat) : Int32 := if (sOut g w nd tc free pq).1 < nd then 21 else nI (sOut g w nd tc free pq).2.length
def sEasy (cap : Nat → Int32) (g : Nat → Nat → Int32) (tc : Nat) (nd : Int32) (pq : Nat) : Nat → Int32 × Int32
  | 0 => (-1, 21)
  | w + 1 => if ¬ (sEasy cap g tc nd pq w).2 ≤ sNote g (nI w) nd tc (sFree (cap w) g (nI w) tc) pq then (nI w, sNote g (nI w) nd tc (sFree (cap w) g (nI w) tc) pq) else sEasy cap g tc nd pq w
/-- the scratch row 'leaving' with the list l noted in it -/
def sLv (d : Nat → Nat → Int32) (p : Nat) (l : List Nat) : Nat → Nat → Int32 := fun q i => if q = p + 6 then (match l[i]? with | some k => nI k | none => d q i) else d q i
theorem sLv_nil (d : Nat → Nat → Int32) (p : Nat) : sLv d p [] = d := by
  funext q i
  simp [sLv]
theorem sLv_app (d : Nat → Nat → Int32) (p : Nat) (l : List Nat) (k : Nat) : sLv d p (l ++ [k]) = hu (sLv d p l) (p + 6) l.length (nI k) := by
  funext q i
  simp only [sLv, hu]
  by_cases hq : q = p + 6
  · simp only [hq, if_true, true_and]
    by_cases hi : i = l.length
    · subst hi
      simp
    · rw [if_neg hi]
      by_cases h2 : i < l.length
      · rw [List.getElem?_append_left h2]
      · rw [List.getElem?_append_right (by omega), List.getElem?_eq_none (by simp; omega), List.getElem?_eq_none (by omega)]
  · simp [hq]
theorem sLv_n {d : Nat → Nat → Int32} {p : Nat} {l : List Nat} {q : Nat} (h : q ≠ p + 6) (i : Nat) : sLv d p l q i = d q i := by simp [sLv, h]
theorem sLv_tk (d : Nat → Nat → Int32) (p : Nat) (l : List Nat) : tk (sLv d p l) p = tk d p := by
  funext t j
  exact sLv_n (by omega) j
theorem sBest_cases (cap : Nat → Int32) (g : Nat → Nat → Int32) (tc : Nat) (need : Int32) (n : Nat) : (sBest cap g tc need n).1 = -1 ∨ ∃ w, w < n ∧ (sBest cap g tc need n).1 = nI w := by
  induction n with
  | zero => exact Or.inl rfl
  | succ n ih =>
    simp only [sBest]
    split
    · exact Or.inr ⟨n, by omega, rfl⟩
    · rcases ih with h | ⟨w, h1, h2⟩
      · exact Or.inl h
      · exact Or.inr ⟨w, by omega, h2⟩
theorem sEasy_cases (cap : Nat → Int32) (g : Nat → Nat → Int32) (tc : Nat) (nd : Int32) (pq : Nat) (n : Nat) : (sEasy cap g tc nd pq n).1 = -1 ∨ ∃ w, w < n ∧ (sEasy cap g tc nd pq n).1 = nI w := by
  induction n with
  | zero => exact Or.inl rfl
  | succ n ih =>
    simp only [sEasy]
    split
    · exact Or.inr ⟨n, by omega, rfl⟩
    · rcases ih with h | ⟨w, h1, h2⟩
      · exact Or.inl h
      · exact Or.inr ⟨w, by omega, h2⟩
theorem sIn_len (g : Nat → Nat → Int32) (w q nd : Int32) : ∀ (k : Nat) (s : Int32 × List Nat), (sIn g w q nd k s).2.length ≤ s.2.length + cnt (fun t => g t 2 = q) k := by
  intro k
  induction k with
  | zero => intro s; exact Nat.le_refl _
  | succ k ih =>
    intro s
    simp only [sIn, cnt]
    split
    · omega
    · split
      · rename_i h
        have := ih (s.1 + g k 1, s.2 ++ [k])
        rw [if_pos h.2]
        simp only [List.length_append, List.length_cons, List.length_nil] at this
        omega
      · have := ih s
        omega
theorem sOut_len (g : Nat → Nat → Int32) (w nd : Int32) (tc : Nat) (free : Int32) : ∀ q, q < 1000 → (sOut g w nd tc free q).2.length ≤ cnt (fun t => ∃ i, i < q ∧ g t 2 = nI i) tc := by
  intro q
  induction q with
  | zero => intro _; exact Nat.zero_le _
  | succ q ih =>
    intro hq
    have h1 := sIn_len g w (nI q) nd tc (sOut g w nd tc free q)
    have h2 := ih (by omega)
    have h3 := cnt_or (fun t => ∃ i, i < q ∧ g t 2 = nI i) (fun t => g t 2 = nI q) (fun t => ∃ i, i < q + 1 ∧ g t 2 = nI i) (fun t ⟨i, h, e⟩ => ⟨i, by omega, e⟩) (fun t e => ⟨q, by omega, e⟩) (fun t ⟨i, h, e⟩ e2 => by
      rw [e] at e2
      have := (nI_eq (by omega) (by omega)).mp e2
      omega) tc
    show (sIn g w (nI q) nd tc (sOut g w nd tc free q)).2.length ≤ _
    omega
/-- room for the next priority -/
theorem sOut_room (g : Nat → Nat → Int32) (w nd : Int32) (tc : Nat) (free : Int32) {q : Nat} (hq : q < 999) : (sOut g w nd tc free q).2.length + cnt (fun t => g t 2 = nI q) tc ≤ tc := by
  have h2 := sOut_len g w nd tc free q (by omega)
  have h3 := cnt_or (fun t => ∃ i, i < q ∧ g t 2 = nI i) (fun t => g t 2 = nI q) (fun t => ∃ i, i < q + 1 ∧ g t 2 = nI i) (fun t ⟨i, h, e⟩ => ⟨i, by omega, e⟩) (fun t e => ⟨q, by omega, e⟩) (fun t ⟨i, h, e⟩ e2 => by
    rw [e] at e2
    have := (nI_eq (by omega) (by omega)).mp e2
    omega) tc
  have h4 := cnt_le (fun t => ∃ i, i < q + 1 ∧ g t 2 = nI i) tc
  omega
section PLACE
variable {X : hX} {K z : Nat} {kd : Nat → Option hK} {d : Nat → Nat → Int32} {r : Nat → Nat → Option Nat} {p tc wc : Nat}
theorem c_bestFit {nd : Int32} (hs : sc kd r p) (htc : d p 7 = nI tc) (h20 : tc ≤ 20) (hwc : d p 6 = nI wc) (h6 : wc ≤ 6) : Cl X kX3_bestFit [.inr (some p), .inl nd] (K, z, kd, d, r) (fun rv M' => rv = some (.inl (sBest (d (p + 3)) (tk d p) tc nd wc).1) ∧ M' = (K, z, kd, d, r)) := by
  have hs0 := hs
  obtain ⟨k0, r0, r1, r2, r3, r4, r5, k1, k2, k3, k4, k5, k6, rt, kt, hp⟩ := hs
  refine h_ofWp oX3_bestFit (by decide) (Nat.le_of_ble_eq_true rfl) ?_
  have loop : ∀ n k x5, k + n = wc → Wp X kX3_bestFit K z 8 [some (.inr (some p)), some (.inl nd), some (.inl (sBest (d (p + 3)) (tk d p) tc nd k).1), some (.inl (sBest (d (p + 3)) (tk d p) tc nd k).2), some (.inl (nI k)), x5] [] (K, z, kd, d, r) (fun rv M' => rv = some (.inl (sBest (d (p + 3)) (tk d p) tc nd wc).1) ∧ M' = (K, z, kd, d, r)) := by
    intro n
    induction n with
    | zero =>
      intro k x5 hk
      refine wp_iload rfl rfl ?_
      refine wp_aload_n rfl rfl ?_
      refine st_getI rfl fX3_33 rfl (by assumption) (hwc) ?_
      refine wp_icmp_ge (tgt := 49) rfl (by decide) ?_ ?_
      · intro _
        have : k = wc := by omega
        subst this
        refine wp_iload_n rfl rfl ?_
        refine wp_ireturn rfl .int rfl rfl (⟨rfl, rfl⟩)
      · intro h
        exact absurd (nI_le (by omega) (by omega)) h
    | succ n ih =>
      intro k x5 hk
      have ih' := fun x => ih (k + 1) x (by omega)
      refine wp_iload rfl rfl ?_
      refine wp_aload_n rfl rfl ?_
      refine st_getI rfl fX3_33 rfl (by assumption) (hwc) ?_
      refine wp_icmp_ge (tgt := 49) rfl (by decide) ?_ ?_
      · intro h
        exact absurd h (nI_ge (by omega) (by omega))
      · intro _
        refine wp_aload_n rfl rfl ?_
        refine wp_iload rfl rfl ?_
        refine wp_V1 rfl mX3_bestFit_146 (k0) (Nat.le_of_ble_eq_true rfl) (c_freeOn hs0 htc h20 (by omega)) ?_
        rintro _ _ ⟨rfl, rfl⟩
        refine wp_istore rfl (by decide) ?_
        refine wp_iload rfl rfl ?_
        refine wp_iload_n rfl rfl ?_
        refine wp_icmp_lt (tgt := 43) rfl (by decide) ?_ ?_
        · intro h28
          refine wp_inc rfl rfl (by decide) ?_
          refine wp_goto (tgt := 8) rfl (by decide) ?_
          first | (simp only [show sBest (d (p + 3)) (tk d p) tc nd (k + 1) = (nI k, sFree (d (p + 3) k) (tk d p) (nI k) tc) from if_pos ⟨h28, h34⟩] at ih'; exact ih' _) | (simp only [show sBest (d (p + 3)) (tk d p) tc nd (k + 1) = sBest (d (p + 3)) (tk d p) tc nd k from if_neg (fun q => q.2 h34)] at ih'; exact ih' _) | (simp only [show sBest (d (p + 3)) (tk d p) tc nd (k + 1) = sBest (d (p + 3)) (tk d p) tc nd k from if_neg (fun q => q.1 h28)] at ih'; exact ih' _)
        · intro h28
          refine wp_iload rfl rfl ?_
          refine wp_iload_n rfl rfl ?_
          refine wp_icmp_ge (tgt := 43) rfl (by decide) ?_ ?_
          · intro h34
            refine wp_inc rfl rfl (by decide) ?_
            refine wp_goto (tgt := 8) rfl (by decide) ?_
            first | (simp only [show sBest (d (p + 3)) (tk d p) tc nd (k + 1) = (nI k, sFree (d (p + 3) k) (tk d p) (nI k) tc) from if_pos ⟨h28, h34⟩] at ih'; exact ih' _) | (simp only [show sBest (d (p + 3)) (tk d p) tc nd (k + 1) = sBest (d (p + 3)) (tk d p) tc nd k from if_neg (fun q => q.2 h34)] at ih'; exact ih' _) | (simp only [show sBest (d (p + 3)) (tk d p) tc nd (k + 1) = sBest (d (p + 3)) (tk d p) tc nd k from if_neg (fun q => q.1 h28)] at ih'; exact ih' _)
          · intro h34
            refine wp_iload rfl rfl ?_
            refine wp_istore_n rfl (by decide) ?_
            refine wp_iload rfl rfl ?_
            refine wp_istore_n rfl (by decide) ?_
            refine wp_inc rfl rfl (by decide) ?_
            refine wp_goto (tgt := 8) rfl (by decide) ?_
            first | (simp only [show sBest (d (p + 3)) (tk d p) tc nd (k + 1) = (nI k, sFree (d (p + 3) k) (tk d p) (nI k) tc) from if_pos ⟨h28, h34⟩] at ih'; exact ih' _) | (simp only [show sBest (d (p + 3)) (tk d p) tc nd (k + 1) = sBest (d (p + 3)) (tk d p) tc nd k from if_neg (fun q => q.2 h34)] at ih'; exact ih' _) | (simp only [show sBest (d (p + 3)) (tk d p) tc nd (k + 1) = sBest (d (p + 3)) (tk d p) tc nd k from if_neg (fun q => q.1 h28)] at ih'; exact ih' _)
  refine wp_iconst (v := -1) rfl (by decide) ?_
  refine wp_istore_n rfl (by decide) ?_
  refine wp_bipush (v := 21) rfl (by decide) ?_
  refine wp_istore_n rfl (by decide) ?_
  refine wp_iconst (v := 0) rfl (by decide) ?_
  refine wp_istore rfl (by decide) ?_
  exact loop wc 0 _ (by omega)
theorem c_noteLeaving {a w pq : Nat} {free : Int32} (hs : sc kd r p) (htc : d p 7 = nI tc) (h20 : tc ≤ 20) (ha : kd a = some (.inl 4)) (ha6 : a ≠ p + 6) (hpq : d a 2 = nI pq) (h4 : pq ≤ 4) : Cl X kX3_noteLeaving [.inr (some p), .inl (nI w), .inr (some a), .inl free] (K, z, kd, d, r) (fun rv M' => rv = some (.inl (sNote (tk d p) (nI w) (d a 1) tc free pq)) ∧ M' = (K, z, kd, sLv d p (sOut (tk d p) (nI w) (d a 1) tc free pq).2, r)) := by
  obtain ⟨k0, r0, r1, r2, r3, r4, r5, k1, k2, k3, k4, k5, k6, rt, kt, hp⟩ := hs
  refine h_ofWp oX3_noteLeaving (by decide) (Nat.le_of_ble_eq_true rfl) ?_
  generalize hQ : (fun (rv : Option hV) (M' : hM) => rv = some (.inl (sNote (tk d p) (nI w) (d a 1) tc free pq)) ∧ M' = (K, z, kd, sLv d p (sOut (tk d p) (nI w) (d a 1) tc free pq).2, r)) = Q
  have eT : ∀ l t j, sLv d p l (p + 7 + t) j = tk d p t j := fun l t j => sLv_n (by omega) j
  have outer : ∀ n q x7, q + n = pq → Wp X kX3_noteLeaving K z 9 [some (.inr (some p)), some (.inl (nI w)), some (.inr (some a)), some (.inl free), some (.inl (sOut (tk d p) (nI w) (d a 1) tc free q).1), some (.inl (nI (sOut (tk d p) (nI w) (d a 1) tc free q).2.length)), some (.inl (nI q)), x7] [] (K, z, kd, sLv d p (sOut (tk d p) (nI w) (d a 1) tc free q).2, r) Q := by
    intro n
    induction n with
    | zero =>
      intro q x7 hq
      have e : q = pq := by omega
      subst e
      refine wp_iload rfl rfl ?_
      refine wp_aload_n rfl rfl ?_
      refine st_getI rfl fX3_110 rfl (by assumption) ((sLv_n ha6 2).trans hpq) ?_
      refine wp_icmp_ge (tgt := 108) rfl (by decide) ?_ ?_
      · intro _
        subst hQ
        refine wp_iload rfl rfl ?_
        refine wp_aload_n rfl rfl ?_
        refine st_getI rfl fX3_107 rfl (by assumption) (sLv_n ha6 1) ?_
        refine wp_icmp_lt (tgt := 122) rfl (by decide) ?_ ?_
        · intro h114
          refine wp_bipush (v := 21) rfl (by decide) ?_
          refine wp_ireturn rfl .int rfl rfl ?_
          refine ⟨?_, rfl⟩
          first | (rw [sNote, if_pos h114]) | (rw [sNote, if_neg h114])
        · intro h114
          refine wp_iload rfl rfl ?_
          refine wp_goto (tgt := 124) rfl (by decide) ?_
          refine wp_ireturn rfl .int rfl rfl ?_
          refine ⟨?_, rfl⟩
          first | (rw [sNote, if_pos h114]) | (rw [sNote, if_neg h114])
      · intro h
        exact absurd (nI_le (by omega) (by omega)) h
    | succ n ih =>
      intro q x7 hq
      refine wp_iload rfl rfl ?_
      refine wp_aload_n rfl rfl ?_
      refine st_getI rfl fX3_110 rfl (by assumption) ((sLv_n ha6 2).trans hpq) ?_
      refine wp_icmp_ge (tgt := 108) rfl (by decide) ?_ ?_
      · intro h
        exact absurd h (nI_ge (by omega) (by omega))
      · intro _
        refine wp_aload_n rfl rfl ?_
        refine st_getI rfl fX3_37 rfl (by assumption) ((sLv_n (by omega) 7).trans htc) ?_
        refine wp_iconst (v := 1) rfl (by decide) ?_
        refine wp_isub rfl ?_
        refine wp_istore rfl (by decide) ?_
        have inner : ∀ m (s : Int32 × List Nat), s.2.length + cnt (fun t => tk d p t 2 = nI q) m ≤ 20 → m ≤ tc → sIn (tk d p) (nI w) (nI q) (d a 1) m s = sOut (tk d p) (nI w) (d a 1) tc free (q + 1) → Wp X kX3_noteLeaving K z 26 [some (.inr (some p)), some (.inl (nI w)), some (.inr (some a)), some (.inl free), some (.inl s.1), some (.inl (nI s.2.length)), some (.inl (nI q)), some (.inl (nI m - 1))] [] (K, z, kd, sLv d p s.2, r) Q := by
          intro m
          induction m with
          | zero =>
            intro s _ _ e
            refine wp_iload rfl rfl ?_
            refine wp_if_lt (tgt := 102) rfl (by decide) ?_ ?_
            · intro _
              refine wp_inc rfl rfl (by decide) ?_
              refine wp_goto (tgt := 9) rfl (by decide) ?_
              have := ih (q + 1) (some (.inl (nI 0 - 1))) (by omega)
              rw [← e] at this
              exact this
            · intro h
              exact absurd pred_lt h
          | succ m ihm =>
            intro s hl hm e
            rw [pred_e]
            simp only [cnt] at hl
            refine wp_iload rfl rfl ?_
            refine wp_if_lt (tgt := 102) rfl (by decide) ?_ ?_
            · intro h
              exact absurd h (nI_pos (by omega))
            · intro _
              refine wp_iload rfl rfl ?_
              refine wp_aload_n rfl rfl ?_
              refine st_getI rfl fX3_107 rfl (by assumption) (sLv_n ha6 1) ?_
              refine wp_icmp_ge (tgt := 102) rfl (by decide) ?_ ?_
              · intro h
                have e2 : sIn (tk d p) (nI w) (nI q) (d a 1) (m + 1) s = s := if_pos h
                rw [e2] at e
                refine wp_inc rfl rfl (by decide) ?_
                refine wp_goto (tgt := 9) rfl (by decide) ?_
                have := ih (q + 1) (some (.inl (nI m))) (by omega)
                rw [← e] at this
                exact this
              · intro h
                refine wp_aload_n rfl rfl ?_
                refine st_getR rfl fX3_21 rfl (by assumption) (by assumption) ?_
                refine wp_iload rfl rfl ?_
                refine st_aald (t0 := 4) rfl (by assumption) rfl rfl (by omega) (by decide) (rt _ (by omega)) ?_
                refine st_getI rfl fX3_132 rfl (kt _ (by omega)) (eT _ _ _) ?_
                refine wp_iload_n rfl rfl ?_
                refine wp_icmp_ne (tgt := 96) rfl (by decide) ?_ ?_
                · intro h2
                  have e2 : sIn (tk d p) (nI w) (nI q) (d a 1) (m + 1) s = sIn (tk d p) (nI w) (nI q) (d a 1) m s := by
                    show (if d a 1 ≤ s.1 then s else if _ then _ else _) = _
                    rw [if_neg h, if_neg (fun c => h2 c.1)]
                  rw [e2] at e
                  refine wp_iinc (v := nI m - 1) rfl rfl (dec_e _) (by decide) ?_
                  refine wp_goto (tgt := 26) rfl (by decide) ?_
                  exact ihm s (by omega) (by omega) e
                · intro h2
                  refine wp_aload_n rfl rfl ?_
                  refine st_getR rfl fX3_21 rfl (by assumption) (by assumption) ?_
                  refine wp_iload rfl rfl ?_
                  refine st_aald (t0 := 4) rfl (by assumption) rfl rfl (by omega) (by decide) (rt _ (by omega)) ?_
                  refine st_getI rfl fX3_110 rfl (kt _ (by omega)) (eT _ _ _) ?_
                  refine wp_iload rfl rfl ?_
                  refine wp_icmp_ne (tgt := 96) rfl (by decide) ?_ ?_
                  · intro h3
                    have e2 : sIn (tk d p) (nI w) (nI q) (d a 1) (m + 1) s = sIn (tk d p) (nI w) (nI q) (d a 1) m s := by
                      show (if d a 1 ≤ s.1 then s else if _ then _ else _) = _
                      rw [if_neg h, if_neg (fun c => h3 c.2)]
                    rw [e2] at e
                    refine wp_iinc (v := nI m - 1) rfl rfl (dec_e _) (by decide) ?_
                    refine wp_goto (tgt := 26) rfl (by decide) ?_
                    exact ihm s (by omega) (by omega) e
                  · intro h3
                    have e2 : sIn (tk d p) (nI w) (nI q) (d a 1) (m + 1) s = sIn (tk d p) (nI w) (nI q) (d a 1) m (s.1 + tk d p m 1, s.2 ++ [m]) := by
                      show (if d a 1 ≤ s.1 then s else if _ then _ else _) = _
                      rw [if_neg h, if_pos ⟨h2, h3⟩]
                    rw [e2] at e
                    rw [if_pos h3] at hl
                    refine wp_iload rfl rfl ?_
                    refine wp_aload_n rfl rfl ?_
                    refine st_getR rfl fX3_21 rfl (by assumption) (by assumption) ?_
                    refine wp_iload rfl rfl ?_
                    refine st_aald (t0 := 4) rfl (by assumption) rfl rfl (by omega) (by decide) (rt _ (by omega)) ?_
                    refine st_getI rfl fX3_107 rfl (kt _ (by omega)) (eT _ _ _) ?_
                    refine wp_iadd rfl ?_
                    refine wp_istore rfl (by decide) ?_
                    refine wp_aload_n rfl rfl ?_
                    refine st_getR rfl fX3_29 rfl (by assumption) (by assumption) ?_
                    refine wp_iload rfl rfl ?_
                    refine wp_iload rfl rfl ?_
                    refine st_iast rfl (by assumption) (by omega) rfl (by omega) (by decide) ?_
                    refine wp_inc rfl rfl (by decide) ?_
                    refine wp_iinc (v := nI m - 1) rfl rfl (dec_e _) (by decide) ?_
                    refine wp_goto (tgt := 26) rfl (by decide) ?_
                    have := ihm (s.1 + tk d p m 1, s.2 ++ [m]) (by simp only [List.length_append, List.length_cons, List.length_nil]; omega) (by omega) e
                    rw [sLv_app] at this
                    simp only [List.length_append, List.length_cons, List.length_nil] at this
                    exact this
        exact inner tc (sOut (tk d p) (nI w) (d a 1) tc free q) (by have := sOut_room (tk d p) (nI w) (d a 1) tc free (q := q) (by omega); omega) (Nat.le_refl _) rfl
  refine wp_iload_n rfl rfl ?_
  refine wp_istore rfl (by decide) ?_
  refine wp_iconst (v := 0) rfl (by decide) ?_
  refine wp_istore rfl (by decide) ?_
  refine wp_iconst (v := 0) rfl (by decide) ?_
  refine wp_istore rfl (by decide) ?_
  have := outer pq 0 none (by omega)
  rw [show sLv d p (sOut (tk d p) (nI w) (d a 1) tc free 0).2 = d from sLv_nil d p] at this
  exact this
end PLACE
