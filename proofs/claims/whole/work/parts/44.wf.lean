/-! ORDERS KEEP A SCHEDULER AS IT CAN BE -/
theorem i_ac (a b c : Int32) : a - b + c = a + c - b := by
  rw [Int32.sub_eq_add_neg, Int32.sub_eq_add_neg, Int32.add_assoc, Int32.add_comm (-b) c, ← Int32.add_assoc]
/-- one task leaves worker w: so much more is free -/
theorem sFree_off {g g' : Nat → Nat → Int32} {x : Nat} {c w : Int32} (h1 : ∀ t, t ≠ x → g' t = g t) (h0 : g x 6 = w) (h2 : ¬ g' x 6 = w) : ∀ k, sFree c g' w k = if x < k then sFree c g w k + g x 1 else sFree c g w k := by
  intro k
  induction k with
  | zero => rw [if_neg (by omega)]; rfl
  | succ k ih =>
    by_cases e : k = x
    · subst e
      rw [if_neg (Nat.lt_irrefl _)] at ih
      rw [if_pos (Nat.lt_succ_self _)]
      simp only [sFree, if_neg h2, if_pos h0, ih]
      exact (Int32.sub_add_cancel _ _).symm
    · simp only [sFree, h1 k e, ih]
      by_cases hx : x < k
      · rw [if_pos hx, if_pos (show x < k + 1 by omega)]
        split
        · exact (i_ac _ _ _).symm
        · rfl
      · rw [if_neg hx, if_neg (show ¬ x < k + 1 by omega)]
def adL (g : Nat → Nat → Int32) : List Nat → Int32 → Int32
  | [], r => r
  | t :: l, r => adL g l (r + g t 1)
theorem adL_eq {g g' : Nat → Nat → Int32} (h : ∀ t, g' t 1 = g t 1) : ∀ (l : List Nat) (r : Int32), adL g' l r = adL g l r := by
  intro l
  induction l with
  | nil => intro r; rfl
  | cons x l ih => intro r; simp only [adL, h, ih]
theorem sFree_ev {c : Int32} {w tc : Nat} (hw : w < 1000) : ∀ (l : List Nat) (g : Nat → Nat → Int32), l.Nodup → (∀ t ∈ l, t < tc ∧ g t 6 = nI w) → sFree c (gEv g l) (nI w) tc = adL g l (sFree c g (nI w) tc) := by
  intro l
  induction l with
  | nil => intro g _ _; rfl
  | cons x l ih =>
    intro g hn hm
    obtain ⟨hx1, hx2⟩ := hm x List.mem_cons_self
    rw [List.nodup_cons] at hn
    show sFree c (gEv (hu (hu g x 4 0) x 6 (-1)) l) (nI w) tc = adL g l (sFree c g (nI w) tc + g x 1)
    rw [ih _ hn.2 (fun t ht => ⟨(hm t (List.mem_cons_of_mem _ ht)).1, by
      have hne : t ≠ x := fun e => hn.1 (by rw [← e]; exact ht)
      rw [row_n hne, row_n hne]
      exact (hm t (List.mem_cons_of_mem _ ht)).2⟩)]
    rw [adL_eq (g := g) (fun t => by rw [hu_n (by omega), hu_n (by omega)])]
    rw [sFree_off (x := x) (g := g) (fun t ht => by rw [row_n ht, row_n ht]) hx2 (by rw [hu_s]; exact nI_m1 hw), if_pos hx1]
theorem tkL_ad (g : Nat → Nat → Int32) (nd : Int32) : ∀ (l : List Nat) (room : Int32), (tkL g nd l room).1 = adL g (tkL g nd l room).2 room ∧ ∃ l2, l = (tkL g nd l room).2 ++ l2 := by
  intro l
  induction l with
  | nil => intro room; exact ⟨rfl, [], rfl⟩
  | cons x l ih =>
    intro room
    simp only [tkL]
    split
    · exact ⟨rfl, x :: l, rfl⟩
    · obtain ⟨h1, l2, h2⟩ := ih (room + g x 1)
      refine ⟨h1, l2, ?_⟩
      show x :: l = x :: ((tkL g nd l (room + g x 1)).2 ++ l2)
      rw [← h2]
theorem cL_nodup (g : Nat → Nat → Int32) (w : Int32) {tc : Nat} (htc : tc ≤ 20) {q : Nat} (hq : q < 1000) : (cL g w tc q).Nodup :=
  (cL_sort g w htc q hq).imp (fun {a b} h e => by rw [e] at h; exact Nat.lt_irrefl _ h)
/-- the room that giving way makes -/
theorem sOut_free {g : Nat → Nat → Int32} {c nd : Int32} {w tc q : Nat} (hw : w < 1000) (htc : tc ≤ 20) (hq : q < 1000) : sFree c (gEv g (sOut g (nI w) nd tc (sFree c g (nI w) tc) q).2) (nI w) tc = (sOut g (nI w) nd tc (sFree c g (nI w) tc) q).1 := by
  rw [sOut_tk]
  obtain ⟨h1, l2, h2⟩ := tkL_ad g nd (cL g (nI w) tc q) (sFree c g (nI w) tc)
  have hnd := cL_nodup g (nI w) htc hq
  rw [h2, List.nodup_append] at hnd
  rw [h1]
  exact sFree_ev hw _ g hnd.1 (fun t ht => by
    have : t ∈ cL g (nI w) tc q := by rw [h2]; exact List.mem_append_left _ ht
    obtain ⟨a, b, -⟩ := (cL_mem g (nI w) tc q).mp this
    exact ⟨a, b⟩)
section WF
variable {wc tc : Nat} {quo cap bd : Nat → Int32}
theorem sWf_ev : ∀ (l : List Nat) (g : Nat → Nat → Int32), sWf (wc, tc, quo, cap, g, bd) → (∀ t ∈ l, t < tc) → sWf (wc, tc, quo, cap, gEv g l, bd) ∧ ∀ u, us (gEv g l) u tc ≤ us g u tc := by
  intro l
  induction l with
  | nil => intro g h _; exact ⟨h, fun u => Nat.le_refl _⟩
  | cons x l ih =>
    intro g h hm
    obtain ⟨h1, h2⟩ := ih (hu (hu g x 4 0) x 6 (-1)) (sWf_off h (hm x List.mem_cons_self) (Or.inl rfl)) (fun t ht => hm t (List.mem_cons_of_mem _ ht))
    refine ⟨h1, fun u => Nat.le_trans (h2 u) ?_⟩
    have hone := us_one (u := u) (x := x) (g := g) (g' := hu (hu g x 4 0) x 6 (-1)) (fun t ht => by rw [row_n ht, row_n ht]) (by rw [hu_n (by omega), hu_n (by omega)]) (by rw [hu_n (by omega), hu_n (by omega)]) tc
    rw [if_neg (c := x < tc ∧ g x 0 = nI u ∧ hu (hu g x 4 0) x 6 (-1) x 4 = 1) (fun q => by
      have := q.2.2
      rw [hu_n (by omega), hu_s] at this
      exact absurd this (by decide))] at hone
    omega
theorem sBest_fit (cap : Nat → Int32) (g : Nat → Nat → Int32) (tc : Nat) (nd : Int32) : ∀ n, sBest cap g tc nd n = (-1, 21) ∨ ∃ b, b < n ∧ sBest cap g tc nd n = (nI b, sFree (cap b) g (nI b) tc) ∧ ¬ sFree (cap b) g (nI b) tc < nd := by
  intro n
  induction n with
  | zero => exact Or.inl rfl
  | succ n ih =>
    simp only [sBest]
    split
    · rename_i h
      exact Or.inr ⟨n, by omega, rfl, h.1⟩
    · rcases ih with h | ⟨b, h1, h2⟩
      · exact Or.inl h
      · exact Or.inr ⟨b, by omega, h2⟩
theorem sWf_try {x : Nat} {g g' : Nat → Nat → Int32} (h : sWf (wc, tc, quo, cap, g, bd)) (hx : x < tc) (hT : sTry quo cap g wc tc x = some g') : sWf (wc, tc, quo, cap, g', bd) := by
  have hwc : wc ≤ 6 := h.1.1
  have htc : tc ≤ 20 := h.1.2.1
  have hnd' : ∀ t, t < tc → inR (g t 1) 1 21 := sWf_need h
  obtain ⟨⟨u, hu4, eu⟩, pq, hq4, eq⟩ : (∃ u, u < 4 ∧ g x 0 = nI u) ∧ ∃ q, q < 4 ∧ g x 2 = nI q := h.1.2.2 x hx
  by_cases hm : sMay quo g tc x
  · rw [sTry_may hm] at hT
    have hq := hm.2
    by_cases hb : (sBest cap g tc (g x 1) wc).1 = -1
    · rw [if_pos hb] at hT
      rw [eq, nI_clamp (show pq < 2 ^ 31 by omega)] at hT
      rcases (sEasy_ok cap g tc (g x 1) pq wc).2 with ⟨h1, -⟩ | ⟨w, hw, h1, h2, h3⟩
      · rw [if_pos h1] at hT
        cases hT
      · have hne : ¬ (sEasy cap g tc (g x 1) pq wc).1 = -1 := fun e => nI_m1 (w := w) (by omega) (by rw [← e, h1])
        rw [if_neg hne, h1, nI_clamp (show w < 2 ^ 31 by omega)] at hT
        cases hT
        have hmem := sOut_mem g (nI w) (g x 1) tc (sFree (cap w) g (nI w) tc) pq
        obtain ⟨e1, e2⟩ := sWf_ev (sOut g (nI w) (g x 1) tc (sFree (cap w) g (nI w) tc) pq).2 g h (fun t ht => (hmem t ht).1)
        refine sWf_on e1 hx hw ?_ ?_
        · rw [sOut_free (by omega) htc (by omega), gEv_f _ _ _ _ (by decide) (by decide)]
          intro hc
          rw [h2, sNote, if_pos hc] at h3
          exact absurd h3 (by decide)
        · rw [gEv_f _ _ _ _ (by decide) (by decide), gEv_f _ _ _ _ (by decide) (by decide)]
          have hnd2 : ∀ t, t < tc → inR (gEv g (sOut g (nI w) (g x 1) tc (sFree (cap w) g (nI w) tc) pq).2 t 1) 1 21 := sWf_need e1
          obtain ⟨q, b, q1, q2, q3, q4, q5, q6⟩ := h.2.2.2.2 u hu4
          have q4' : quo u = nI q := q4
          obtain ⟨n1, n2, n3⟩ := inR_n (hnd' x hx) (by omega)
          have hul := us_le g u tc hnd'
          have e2u := e2 u
          generalize gEv g (sOut g (nI w) (g x 1) tc (sFree (cap w) g (nI w) tc) pq).2 = G at hnd2 e2u ⊢
          rw [eu, nI_clamp (by omega), q4', sUsed_eq _ hnd', n3, nI_add, i_lt, i_nI (by omega), i_nI (by omega)] at hq
          rw [eu, nI_clamp (by omega), q4', sUsed_eq _ hnd2, n3, nI_add, i_lt, i_nI (by omega), i_nI (by omega)]
          omega
    · rw [if_neg hb] at hT
      cases hT
      rcases sBest_fit cap g tc (g x 1) wc with h1 | ⟨b, hbw, h1, h2⟩
      · rw [h1] at hb
        exact absurd rfl hb
      · rw [h1]
        exact sWf_on h hx hbw h2 hq
  · rw [sTry_not hm] at hT
    cases hT
theorem sWf_pk {g0 : Nat → Nat → Int32} {q : Int32} (s : (Nat → Nat → Int32) × Nat) (h : sWf (wc, tc, quo, cap, s.1, bd)) : ∀ k, k ≤ tc → sWf (wc, tc, quo, cap, (sPk quo cap wc tc g0 q k s).1, bd) := by
  intro k
  induction k with
  | zero => intro _; exact h
  | succ k ih =>
    intro hk
    simp only [sPk]
    split
    · split
      · exact ih (by omega)
      · rename_i hT
        exact sWf_try (ih (by omega)) (by omega) hT
    · exact ih (by omega)
theorem sWf_po {g : Nat → Nat → Int32} (h : sWf (wc, tc, quo, cap, g, bd)) : ∀ k, sWf (wc, tc, quo, cap, (sPo quo cap wc tc g k).1, bd) := by
  intro k
  induction k with
  | zero => exact h
  | succ k ih => exact sWf_pk _ ih tc (Nat.le_refl _)
theorem sWf_le {g : Nat → Nat → Int32} {w : Int32} (h : sWf (wc, tc, quo, cap, g, bd)) : ∀ k, k ≤ tc → sWf (wc, tc, quo, cap, (sLe g w k).1, bd) := by
  intro k
  induction k with
  | zero => intro _; exact h
  | succ k ih =>
    intro hk
    simp only [sLe]
    split
    · exact sWf_off (ih (by omega)) (by omega) (Or.inl rfl)
    · exact ih (by omega)
end WF
theorem ld_zero {g : Nat → Nat → Int32} {w : Nat} : ∀ k, (∀ t, t < k → ¬ g t 6 = nI w) → ld g w k = 0 := by
  intro k
  induction k with
  | zero => intro _; rfl
  | succ k ih =>
    intro h
    simp only [ld, if_neg (h k (by omega))]
    exact ih (fun t ht => h t (by omega))
theorem ld_cong {g g' : Nat → Nat → Int32} {w : Nat} : ∀ k, (∀ t, t < k → g' t = g t) → ld g' w k = ld g w k := by
  intro k
  induction k with
  | zero => intro _; rfl
  | succ k ih =>
    intro h
    simp only [ld, h k (by omega), ih (fun t ht => h t (by omega))]
theorem us_cong {g g' : Nat → Nat → Int32} {w : Nat} : ∀ k, (∀ t, t < k → g' t = g t) → us g' w k = us g w k := by
  intro k
  induction k with
  | zero => intro _; rfl
  | succ k ih =>
    intro h
    simp only [us, h k (by omega), ih (fun t ht => h t (by omega))]
theorem sWf_act {S : Sch} (h : sWf S) (x a b c e : Int32) : sWf (sAct S x a b c e).1 := by
  have hok := sOk_act h.1 x a b c e
  obtain ⟨wc, tc, quo, cap, g, bd⟩ := S
  have hwc : wc ≤ 6 := h.1.1
  have htc : tc ≤ 20 := h.1.2.1
  have hnd' : ∀ t, t < tc → inR (g t 1) 1 21 := sWf_need h
  have cc : ∀ (P : Prop) (A B : Sch × Int32), sOk (cIf P A B).1 → (P → sOk A.1 → sWf A.1) → sWf B.1 → sWf (cIf P A B).1 := fun P A B f0 f1 f2 => by
    rcases Classical.em P with hp | hp
    · rw [cIf_t hp] at f0 ⊢; exact f1 hp f0
    · rw [cIf_f hp]; exact f2
  unfold sAct at hok ⊢
  split at hok
  · rename_i hx
    rw [if_pos hx]
    refine cc _ _ _ hok (fun hp h0 => ?_) h
    obtain ⟨⟨u0, -, hu0, rfl⟩, ⟨b0, -, hb0, rfl⟩⟩ := hp
    rw [nI_clamp (show u0 < 2 ^ 31 by omega)] at h0 ⊢
    obtain ⟨-, h1, h2, h3, h4⟩ := h
    refine ⟨h0, h1, h2, h3, fun u hu4 => ?_⟩
    obtain ⟨q, k, k1, k2, k3, k4, k5, k6⟩ := h4 u hu4
    by_cases e : u = u0
    · subst e
      have hul := us_le g u tc hnd'
      show ∃ q b, q ≤ 60 ∧ q ≤ b ∧ b ≤ 1000 ∧ hu1 quo u (nI b0) u = nI q ∧ hu1 bd u (if nI b0 < sUsed g (nI u) tc then sUsed g (nI u) tc else nI b0) u = nI b ∧ us g u tc ≤ b
      rw [hu1_s, hu1_s, sUsed_eq tc hnd']
      by_cases hlt : b0 < us g u tc
      · refine ⟨b0, us g u tc, by omega, by omega, by omega, rfl, ?_, Nat.le_refl _⟩
        rw [if_pos ((nI_ltI (by omega) (by omega)).mpr hlt)]
      · refine ⟨b0, b0, by omega, by omega, by omega, rfl, ?_, by omega⟩
        rw [if_neg (fun q => hlt ((nI_ltI (by omega) (by omega)).mp q))]
    · refine ⟨q, k, k1, k2, k3, ?_, ?_, k6⟩
      · show hu1 quo u0 (nI b0) u = nI q
        rw [hu1_n e]; exact k4
      · show hu1 bd u0 _ u = nI k
        rw [hu1_n e]; exact k5
  rename_i x0
  rw [if_neg x0]
  split at hok
  · rename_i hx
    rw [if_pos hx]
    refine cc _ _ _ hok (fun hp h0 => ?_) h
    obtain ⟨⟨c0, hc1, hc2, rfl⟩, h6⟩ := hp
    have h6' : wc < 6 := h6
    obtain ⟨-, h1, h2, h3, h4⟩ := h
    refine ⟨h0, fun t ht => ?_, h2, fun w hw => ?_, h4⟩
    · obtain ⟨a1, a2, a3, a4, a5⟩ := h1 t ht
      refine ⟨a1, fun q => ?_, a3, a4, a5⟩
      obtain ⟨w, hw, ew⟩ := a2 q
      have hw' : w < wc := hw
      exact ⟨w, by show w < wc + 1; omega, ew⟩
    · have hw' : w < wc + 1 := hw
      show ∃ c, 1 ≤ c ∧ c ≤ 20 ∧ hu1 cap wc (nI c0) w = nI c ∧ ld g w tc ≤ c
      by_cases e : w = wc
      · subst e
        rw [hu1_s]
        refine ⟨c0, hc1, by omega, rfl, ?_⟩
        rw [ld_zero tc (fun t ht q => ?_)]
        · omega
        · obtain ⟨a1, a2, a3, a4, a5⟩ := h1 t ht
          dsimp only at a1 a2
          by_cases e4 : g t 4 = 1
          · obtain ⟨w', hw', ew'⟩ := a2 e4
            rw [ew'] at q
            have := (nI_eq (by omega) (by omega)).mp q
            omega
          · rw [a1 e4] at q
            exact nI_m1 (by omega) q
      · rw [hu1_n e]
        exact h3 w (by show w < wc; omega)
  rename_i x1
  rw [if_neg x1]
  split at hok
  · rename_i hx
    rw [if_pos hx]
    refine cc _ _ _ hok (fun hp h0 => ?_) h
    obtain ⟨⟨-, hb, -, he⟩, h20⟩ := hp
    have h20' : tc < 20 := h20
    obtain ⟨-, h1, h2, h3, h4⟩ := h
    have row : ∀ t, t ≠ tc → hu (hu (hu (hu g tc 0 a) tc 1 b) tc 2 c) tc 3 e t = g t := fun t ht => by rw [row_n ht, row_n ht, row_n ht, row_n ht]
    obtain ⟨z4, z5, z6, z7⟩ : g tc 4 = 0 ∧ g tc 5 = 0 ∧ g tc 6 = -1 ∧ g tc 7 = 0 := h2 tc (Nat.le_refl _) h20
    have fld : ∀ j, 4 ≤ j → hu (hu (hu (hu g tc 0 a) tc 1 b) tc 2 c) tc 3 e tc j = g tc j := fun j hj => by rw [hu_n (by omega), hu_n (by omega), hu_n (by omega), hu_n (by omega)]
    generalize hG : hu (hu (hu (hu g tc 0 a) tc 1 b) tc 2 c) tc 3 e = g' at h0 row fld ⊢
    have f1 : g' tc 1 = b := by rw [← hG, hu_n (by omega), hu_n (by omega), hu_s]
    have f3 : g' tc 3 = e := by rw [← hG, hu_s]
    refine ⟨h0, fun t ht => ?_, fun t q1 q2 => ?_, fun w hw => ?_, fun u hu4 => ?_⟩
    · have ht' : t < tc + 1 := ht
      by_cases et : t = tc
      · subst et
        refine ⟨fun _ => ?_, fun q => ?_, ?_, ?_, ?_⟩ <;> dsimp only
        · rw [fld 6 (by omega)]; exact z6
        · dsimp only at q
          rw [fld 4 (by omega), z4] at q
          exact absurd q (by decide)
        · rw [fld 4 (by omega)]; exact Or.inl z4
        · rw [f3]
          rcases he with q | ⟨j, j1, j2, j3⟩
          · exact Or.inl q
          · exact Or.inr ⟨j, j1, Nat.lt_succ_of_lt j2, j3⟩
        · rw [f1]; exact hb
      · obtain ⟨a1, a2, a3, a4, a5⟩ := h1 t (by show t < tc; omega)
        unfold sTk
        dsimp only at a1 a2 a3 a4 a5 ⊢
        rw [row t et]
        refine ⟨a1, a2, a3, ?_, a5⟩
        rcases a4 with q | ⟨j, j1, j2, j3⟩
        · exact Or.inl q
        · exact Or.inr ⟨j, j1, Nat.lt_succ_of_lt j2, j3⟩
    · have q1' : tc + 1 ≤ t := q1
      show g' t 4 = 0 ∧ g' t 5 = 0 ∧ g' t 6 = -1 ∧ g' t 7 = 0
      rw [row t (by omega)]
      exact h2 t (by show tc ≤ t; omega) q2
    · obtain ⟨k, k1, k2, k3, k4⟩ := h3 w hw
      have hw' : w < wc := hw
      refine ⟨k, k1, k2, k3, ?_⟩
      show ld g' w (tc + 1) ≤ k
      rw [ld, if_neg (fun q => by rw [fld 6 (by omega), z6] at q; exact nI_m1 (by omega) q), ld_cong tc (fun t ht => row t (by omega))]
      exact k4
    · obtain ⟨q, k, k1, k2, k3, k4, k5, k6⟩ := h4 u hu4
      refine ⟨q, k, k1, k2, k3, k4, k5, ?_⟩
      show us g' u (tc + 1) ≤ k
      rw [us, if_neg (fun q => by have := q.2; rw [fld 4 (by omega), z4] at this; exact absurd this (by decide)), us_cong tc (fun t ht => row t (by omega))]
      exact k6
  rename_i x2
  rw [if_neg x2]
  split at hok
  · rename_i hx
    rw [if_pos hx]
    exact sWf_po h 4
  rename_i x3
  rw [if_neg x3]
  split at hok
  · rename_i hx
    rw [if_pos hx]
    refine cc _ _ _ hok (fun hp h0 => ?_) h
    obtain ⟨⟨t, -, ht, rfl⟩, -⟩ := hp
    have ht' : t < tc := ht
    rw [nI_clamp (show t < 2 ^ 31 by omega)]
    have e4 : hu (hu (hu g t 4 2) t 6 (-1)) t 7 c t 4 = 2 := by rw [hu_n (by omega), hu_n (by omega), hu_s]
    have e6 : hu (hu (hu g t 4 2) t 6 (-1)) t 7 c t 6 = -1 := by rw [hu_n (by omega), hu_s]
    refine sWf_one h ht' (fun s hs => by rw [row_n hs, row_n hs, row_n hs]) (fun j hj => by rw [hu_n (by omega), hu_n (by omega), hu_n (by omega)]) ?_ ?_ ?_
    · rw [e4, e6]
      exact ⟨fun _ => rfl, fun q => absurd q (by decide), by simp⟩
    · intro w hw q
      rw [e6] at q
      exact absurd q (nI_m1 (by omega))
    · intro u _ _ q
      rw [e4] at q
      exact absurd q (by decide)
  rename_i x4
  rw [if_neg x4]
  split at hok
  · rename_i hx
    rw [if_pos hx]
    refine cc _ _ _ hok (fun hp h0 => ?_) h
    obtain ⟨⟨t, -, ht, rfl⟩, -⟩ := hp
    have ht' : t < tc := ht
    rw [nI_clamp (show t < 2 ^ 31 by omega)]
    exact sWf_off h ht' (Or.inr (Or.inr rfl))
  rename_i x5
  rw [if_neg x5]
  split at hok
  · rename_i hx
    rw [if_pos hx]
    exact cc _ _ _ hok (fun hp h0 => sWf_le h tc (Nat.le_refl _)) h
  rename_i x6
  rw [if_neg x6]
  split at hok
  · rename_i hx
    rw [if_pos hx]
    exact h
  · rename_i hx
    rw [if_neg hx]
    exact h
theorem sWf_S0 : sWf S0 := ⟨⟨Nat.zero_le _, Nat.zero_le _, fun t ht => absurd ht (Nat.not_lt_zero t)⟩, fun t ht => absurd ht (Nat.not_lt_zero t), fun t _ _ => ⟨rfl, rfl, rfl, rfl⟩, fun w hw => absurd hw (Nat.not_lt_zero w), fun u _ => ⟨0, 0, by omega, by omega, by omega, rfl, rfl, Nat.le_refl _⟩⟩
theorem rnS_wf (g : Nat → Nat → Int32) : ∀ k, sWf (rnS g k) := by
  intro k
  induction k with
  | zero => exact sWf_S0
  | succ k ih => exact sWf_act ih _ _ _ _ _
