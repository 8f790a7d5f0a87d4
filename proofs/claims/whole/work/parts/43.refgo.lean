/-! THE REFERENCE'S SCHEDULER: who must go, which worker -/
def cq (g : Nat → Nat → Int32) (w q : Int32) : Nat → List Nat
  | 0 => []
  | k + 1 => if g k 6 = w ∧ g k 2 = q then k :: cq g w q k else cq g w q k
def cL (g : Nat → Nat → Int32) (w : Int32) (tc : Nat) : Nat → List Nat
  | 0 => []
  | q + 1 => cL g w tc q ++ cq g w (nI q) tc
def tkL (g : Nat → Nat → Int32) (nd : Int32) : List Nat → Int32 → Int32 × List Nat
  | [], room => (room, [])
  | t :: l, room => if nd ≤ room then (room, []) else ((tkL g nd l (room + g t 1)).1, t :: (tkL g nd l (room + g t 1)).2)
theorem tkL_stop (g : Nat → Nat → Int32) {nd room : Int32} (h : nd ≤ room) : ∀ l, tkL g nd l room = (room, []) := by
  intro l
  cases l with
  | nil => rfl
  | cons t l => exact if_pos h
theorem tkL_app (g : Nat → Nat → Int32) (nd : Int32) (l2 : List Nat) : ∀ (l1 : List Nat) (room : Int32), tkL g nd (l1 ++ l2) room = ((tkL g nd l2 (tkL g nd l1 room).1).1, (tkL g nd l1 room).2 ++ (tkL g nd l2 (tkL g nd l1 room).1).2) := by
  intro l1
  induction l1 with
  | nil => intro room; rfl
  | cons t l1 ih =>
    intro room
    by_cases h : nd ≤ room
    · rw [tkL_stop g h, tkL_stop g h, tkL_stop g h]
      rfl
    · simp only [List.cons_append, tkL, if_neg h, ih]
theorem sIn_tk (g : Nat → Nat → Int32) (w q nd : Int32) : ∀ (k : Nat) (s : Int32 × List Nat), sIn g w q nd k s = ((tkL g nd (cq g w q k) s.1).1, s.2 ++ (tkL g nd (cq g w q k) s.1).2) := by
  intro k
  induction k with
  | zero => intro s; simp [sIn, cq, tkL]
  | succ k ih =>
    intro s
    by_cases h : nd ≤ s.1
    · rw [tkL_stop g h]
      simp [sIn, h]
    · by_cases hc : g k 6 = w ∧ g k 2 = q
      · simp only [sIn, cq, if_neg h, if_pos hc, ih, tkL]
        simp
      · simp only [sIn, cq, if_neg h, if_neg hc, ih]
theorem sOut_tk (g : Nat → Nat → Int32) (w nd : Int32) (tc : Nat) (f : Int32) : ∀ q, sOut g w nd tc f q = tkL g nd (cL g w tc q) f := by
  intro q
  induction q with
  | zero => rfl
  | succ q ih =>
    show sIn g w (nI q) nd tc (sOut g w nd tc f q) = tkL g nd (cL g w tc q ++ cq g w (nI q) tc) f
    rw [sIn_tk, ih, tkL_app]
theorem cq_mem (g : Nat → Nat → Int32) (w q : Int32) {t : Nat} : ∀ k, t ∈ cq g w q k ↔ t < k ∧ g t 6 = w ∧ g t 2 = q := by
  intro k
  induction k with
  | zero => simp [cq]
  | succ k ih =>
    simp only [cq]
    split
    · rename_i hc
      rw [List.mem_cons, ih]
      constructor
      · rintro (rfl | ⟨h1, h2⟩)
        · exact ⟨by omega, hc⟩
        · exact ⟨by omega, h2⟩
      · rintro ⟨h1, h2⟩
        by_cases e : t = k
        · exact Or.inl e
        · exact Or.inr ⟨by omega, h2⟩
    · rename_i hc
      rw [ih]
      constructor
      · rintro ⟨h1, h2⟩
        exact ⟨by omega, h2⟩
      · rintro ⟨h1, h2⟩
        by_cases e : t = k
        · subst e; exact absurd h2 hc
        · exact ⟨by omega, h2⟩
theorem cL_mem (g : Nat → Nat → Int32) (w : Int32) (tc : Nat) {t : Nat} : ∀ q, t ∈ cL g w tc q ↔ t < tc ∧ g t 6 = w ∧ ∃ i, i < q ∧ g t 2 = nI i := by
  intro q
  induction q with
  | zero => simp [cL]
  | succ q ih =>
    simp only [cL]
    rw [List.mem_append, ih, cq_mem]
    constructor
    · rintro (⟨h1, h2, i, h3, h4⟩ | ⟨h1, h2, h3⟩)
      · exact ⟨h1, h2, i, by omega, h4⟩
      · exact ⟨h1, h2, q, by omega, h3⟩
    · rintro ⟨h1, h2, i, h3, h4⟩
      by_cases e : i = q
      · subst e; exact Or.inr ⟨h1, h2, h4⟩
      · exact Or.inl ⟨h1, h2, i, by omega, h4⟩
theorem cq_sort (g : Nat → Nat → Int32) (w : Int32) {q : Nat} (hq : q < 1000) : ∀ k, k ≤ 20 → (cq g w (nI q) k).Pairwise (fun a b => rkN g a < rkN g b) := by
  intro k
  induction k with
  | zero => intro _; exact List.Pairwise.nil
  | succ k ih =>
    intro hk
    simp only [cq]
    split
    · rename_i hc
      refine List.pairwise_cons.mpr ⟨fun t ht => ?_, ih (by omega)⟩
      obtain ⟨h1, h2, h3⟩ := (cq_mem g w (nI q) k).mp ht
      rw [rkN, rkN, hc.2, h3, nI_clamp (by omega)]
      omega
    · exact ih (by omega)
theorem cL_sort (g : Nat → Nat → Int32) (w : Int32) {tc : Nat} (htc : tc ≤ 20) : ∀ q, q < 1000 → (cL g w tc q).Pairwise (fun a b => rkN g a < rkN g b) := by
  intro q
  induction q with
  | zero => intro _; exact List.Pairwise.nil
  | succ q ih =>
    intro hq
    refine List.pairwise_append.mpr ⟨ih (by omega), cq_sort g w (by omega) tc htc, fun a ha b hb => ?_⟩
    obtain ⟨h1, h2, i, h3, h4⟩ := (cL_mem g w tc q).mp ha
    obtain ⟨h5, h6, h7⟩ := (cq_mem g w (nI q) tc).mp hb
    rw [rkN, rkN, h4, h7, nI_clamp (by omega), nI_clamp (by omega)]
    omega
theorem sBest_ok (cap : Nat → Int32) (g : Nat → Nat → Int32) (tc : Nat) (nd : Int32) : ∀ n, sBest cap g tc nd n = (-1, 21) ∨ ∃ b, b < n ∧ sBest cap g tc nd n = (nI b, sFree (cap b) g (nI b) tc) := by
  intro n
  induction n with
  | zero => exact Or.inl rfl
  | succ n ih =>
    simp only [sBest]
    split
    · exact Or.inr ⟨n, by omega, rfl⟩
    · rcases ih with h | ⟨b, h1, h2⟩
      · exact Or.inl h
      · exact Or.inr ⟨b, by omega, h2⟩
section RGO
variable {X : hX} {K z : Nat} {kd : Nat → Option hK} {d d0 : Nat → Nat → Int32} {r : Nat → Nat → Option Nat} {Y : Nat} {S : Sch} {x y : Int32}
theorem cL_cnd (hF : sWf S) {w pq t : Nat} (hpq : pq < 1000) : t ∈ cL S.2.2.2.2.1 (nI w) S.2.1 pq ↔ cnd S.2.2.2.2.1 S.2.1 w pq t := by
  rw [cL_mem, cnd]
  constructor
  · rintro ⟨h1, h2, i, h3, h4⟩
    exact ⟨h1, h2, by rw [h4, nI_clamp (by omega)]; exact h3⟩
  · rintro ⟨h1, h2, h3⟩
    obtain ⟨-, q, hq4, eq2⟩ := hF.1.2.2 t h1
    rw [eq2, nI_clamp (by omega)] at h3
    exact ⟨h1, h2, q, h3, eq2⟩
/-- 'weakest' finds the head of what is left -/
theorem r_head {w pq a : Nat} {l1 l2 : List Nat} (hS : rs kd r Y) (hR : rS d Y S) (hF : sWf S) (hw : w < 1000) (hpq : pq < 1000) (ha : a < 1001) (hy : y = nI a - 1) (hl : l1 ++ l2 = cL S.2.2.2.2.1 (nI w) S.2.1 pq) (h1 : ∀ t ∈ l1, rkN S.2.2.2.2.1 t < a) (h2 : ∀ t ∈ l2, a ≤ rkN S.2.2.2.2.1 t) : Cl X kX6_weakest [.inr (some Y), .inl (nI w), .inl (nI pq), .inl y] (K, z, kd, d, r) (fun rv M' => M' = (K, z, kd, d, r) ∧ ((rv = some (.inl (-1)) ∧ l2 = []) ∨ ∃ t l', rv = some (.inl (nI t)) ∧ l2 = t :: l')) := by
  refine (r_weakest hS hR hF hw hpq ha hy).mono ?_
  rintro rv M' ⟨rfl, ⟨rfl, h⟩ | ⟨t, rfl, hc, hat, hmin⟩⟩
  · refine ⟨rfl, Or.inl ⟨rfl, ?_⟩⟩
    cases l2 with
    | nil => rfl
    | cons x l2 =>
      have hx : cnd S.2.2.2.2.1 S.2.1 w pq x := (cL_cnd hF hpq).mp (by rw [← hl]; exact List.mem_append_right _ List.mem_cons_self)
      exact absurd (h x hx) (Nat.not_lt.mpr (h2 x List.mem_cons_self))
  · refine ⟨rfl, Or.inr ?_⟩
    have htm : t ∈ l1 ++ l2 := by rw [hl]; exact (cL_cnd hF hpq).mpr hc
    have ht2 : t ∈ l2 := by
      rcases List.mem_append.mp htm with q | q
      · exact absurd (h1 t q) (Nat.not_lt.mpr hat)
      · exact q
    cases l2 with
    | nil => cases ht2
    | cons x l2 =>
      have hx : cnd S.2.2.2.2.1 S.2.1 w pq x := (cL_cnd hF hpq).mp (by rw [← hl]; exact List.mem_append_right _ List.mem_cons_self)
      have hs := cL_sort S.2.2.2.2.1 (nI w) hF.1.2.1 pq hpq
      rw [← hl] at hs
      have hs2 := (List.pairwise_cons.mp (List.pairwise_append.mp hs).2.1).1
      have hle := hmin x hx (h2 x List.mem_cons_self)
      rcases List.mem_cons.mp ht2 with e | q
      · exact ⟨t, l2, rfl, by rw [e]⟩
      · exact absurd (hs2 t q) (Nat.not_lt.mpr hle)
/-- the split moves on by one -/
theorem split_next {g : Nat → Nat → Int32} {w : Int32} {tc pq x : Nat} {l1 l2 : List Nat} (htc : tc ≤ 20) (hpq : pq < 1000) (hl : l1 ++ x :: l2 = cL g w tc pq) : (∀ t ∈ l1 ++ [x], rkN g t < rkN g x + 1) ∧ (∀ t ∈ l2, rkN g x + 1 ≤ rkN g t) := by
  have hs := cL_sort g w htc pq hpq
  rw [← hl] at hs
  obtain ⟨s1, s2, s3⟩ := List.pairwise_append.mp hs
  have s4 := (List.pairwise_cons.mp s2).1
  refine ⟨fun t ht => ?_, fun t ht => s4 t ht⟩
  rcases List.mem_append.mp ht with q | q
  · exact Nat.lt_succ_of_lt (s3 t q x List.mem_cons_self)
  · rw [List.mem_singleton.mp q]
    exact Nat.lt_succ_self _
theorem r_mustGo {w t pq : Nat} (hS : rs kd r Y) (hR : rS d Y S) (hF : sWf S) (hw : w < S.1) (ht : t < S.2.1) (hpq : S.2.2.2.2.1 t 2 = nI pq) (h4 : pq < 4) : Cl X kX6_mustGo [.inr (some Y), .inl (nI w), .inl (nI t)] (K, z, kd, d, r) (fun rv M' => M' = (K, z, kd, d, r) ∧ rv = some (.inl (if (sOut S.2.2.2.2.1 (nI w) (S.2.2.2.2.1 t 1) S.2.1 (sFree (S.2.2.2.1 w) S.2.2.2.2.1 (nI w) S.2.1) pq).1 < S.2.2.2.2.1 t 1 then -1 else nI (sOut S.2.2.2.2.1 (nI w) (S.2.2.2.2.1 t 1) S.2.1 (sFree (S.2.2.2.1 w) S.2.2.2.2.1 (nI w) S.2.1) pq).2.length))) := by
  obtain ⟨k0, r2, r3, r4, r5, r6, r7, r8, r12, r13, r15, r17, r18, r19, r20, r21, r22, r23, r24, r25, k1, k2, k3, k4, k5, k6, k7, k8, k9, k10, k11, k12, k13, k14, k15, k16, k17, k18, k19, hY⟩ := id hS
  have hwc := hF.1.1
  have htc := hF.1.2.1
  obtain ⟨e14, e16, eq, ec, hT⟩ := id hR
  obtain ⟨t0, t1, t2, t3, t4, t5, t7, t6⟩ := hT t ht
  rw [sOut_tk]
  have hlenc : ∀ l1 l2, l1 ++ l2 = cL S.2.2.2.2.1 (nI w) S.2.1 pq → l1.length ≤ 1000 := fun l1 l2 h => by
    have h9 : (cL S.2.2.2.2.1 (nI w) S.2.1 pq).length ≤ 80 := by
      have hcq : ∀ (q : Int32) k, (cq S.2.2.2.2.1 (nI w) q k).length ≤ k := fun q k => by
        induction k with
        | zero => exact Nat.le_refl _
        | succ k ih =>
          simp only [cq]
          split
          · simp only [List.length_cons]; omega
          · omega
      have : ∀ q, (cL S.2.2.2.2.1 (nI w) S.2.1 q).length ≤ q * 20 := fun q => by
        induction q with
        | zero => exact Nat.le_refl _
        | succ q ih =>
          simp only [cL, List.length_append]
          have := hcq (nI q) S.2.1
          omega
      have := this pq
      omega
    rw [← h, List.length_append] at h9
    omega
  refine h_ofWp oX6_mustGo (by decide) (Nat.le_of_ble_eq_true rfl) ?_
  generalize hT2 : tkL S.2.2.2.2.1 (S.2.2.2.2.1 t 1) (cL S.2.2.2.2.1 (nI w) S.2.1 pq) (sFree (S.2.2.2.1 w) S.2.2.2.2.1 (nI w) S.2.1) = T
  have fin : ∀ room (l1 : List Nat) x5, (room, l1) = T → Wp X kX6_mustGo K z 73 [some (.inr (some Y)), some (.inl (nI w)), some (.inl (nI t)), some (.inl room), some (.inl (nI l1.length)), x5] [] (K, z, kd, d, r) (fun rv M' => M' = (K, z, kd, d, r) ∧ rv = some (.inl (if T.1 < S.2.2.2.2.1 t 1 then -1 else nI T.2.length))) := by
    intro room l1 x5 h
    subst h
    refine wp_iload_n rfl rfl ?_
    refine wp_aload_n rfl rfl ?_
    refine st_getR rfl fX6_44 rfl (by assumption) (by assumption) ?_
    refine wp_iload_n rfl rfl ?_
    refine st_iald rfl (by assumption) rfl (by omega) (by first | decide | omega) (t1) ?_
    refine wp_icmp_ge (tgt := 87) rfl (by decide) ?_ ?_
    · intro h80
      refine wp_iload rfl rfl ?_
      refine wp_ireturn rfl .int rfl rfl ?_
      refine ⟨rfl, ?_⟩
      rw [if_neg (fun q => by rw [i_lt] at q; rw [i_le] at h80; exact absurd q (by show ¬ room.toInt < _; omega))]
    · intro h80
      refine wp_iconst (v := -1) rfl (by decide) ?_
      refine wp_goto (tgt := 89) rfl (by decide) ?_
      refine wp_ireturn rfl .int rfl rfl ?_
      refine ⟨rfl, ?_⟩
      rw [if_pos (by rw [i_le] at h80; rw [i_lt]; show room.toInt < _; omega)]
  have loop : ∀ l2 l1 room v, l1 ++ l2 = cL S.2.2.2.2.1 (nI w) S.2.1 pq → v = (match l2 with | [] => (-1 : Int32) | x :: _ => nI x) → ((tkL S.2.2.2.2.1 (S.2.2.2.2.1 t 1) l2 room).1, l1 ++ (tkL S.2.2.2.2.1 (S.2.2.2.2.1 t 1) l2 room).2) = T → Wp X kX6_mustGo K z 23 [some (.inr (some Y)), some (.inl (nI w)), some (.inl (nI t)), some (.inl room), some (.inl (nI l1.length)), some (.inl v)] [] (K, z, kd, d, r) (fun rv M' => M' = (K, z, kd, d, r) ∧ rv = some (.inl (if T.1 < S.2.2.2.2.1 t 1 then -1 else nI T.2.length))) := by
    intro l2
    induction l2 with
    | nil =>
      intro l1 room v hl hv he
      have he2 : (room, l1) = T := by rw [← he]; simp [tkL]
      refine wp_iload_n rfl rfl ?_
      refine wp_aload_n rfl rfl ?_
      refine st_getR rfl fX6_44 rfl (by assumption) (by assumption) ?_
      refine wp_iload_n rfl rfl ?_
      refine st_iald rfl (by assumption) rfl (by omega) (by first | decide | omega) (t1) ?_
      refine wp_icmp_ge (tgt := 73) rfl (by decide) ?_ ?_
      · intro _
        exact fin room l1 _ he2
      · intro _
        subst hv
        refine wp_iload rfl rfl ?_
        refine wp_if_lt (tgt := 73) rfl (by decide) ?_ ?_
        · intro _
          exact fin room l1 _ he2
        · intro h
          exact absurd (by decide) h
    | cons x l2 ih =>
      intro l1 room v hl hv he
      have hxm : x ∈ cL S.2.2.2.2.1 (nI w) S.2.1 pq := by rw [← hl]; exact List.mem_append_right _ List.mem_cons_self
      have hxt : x < S.2.1 := ((cL_mem _ _ _ _).mp hxm).1
      obtain ⟨sn1, sn2⟩ := split_next htc (by omega) hl
      refine wp_iload_n rfl rfl ?_
      refine wp_aload_n rfl rfl ?_
      refine st_getR rfl fX6_44 rfl (by assumption) (by assumption) ?_
      refine wp_iload_n rfl rfl ?_
      refine st_iald rfl (by assumption) rfl (by omega) (by first | decide | omega) (t1) ?_
      refine wp_icmp_ge (tgt := 73) rfl (by decide) ?_ ?_
      · intro h30
        refine fin room l1 _ ?_
        rw [← he, tkL_stop _ h30]
        simp
      · intro h30
        subst hv
        rw [show tkL S.2.2.2.2.1 (S.2.2.2.2.1 t 1) (x :: l2) room = _ from if_neg h30] at he
        refine wp_iload rfl rfl ?_
        refine wp_if_lt (tgt := 73) rfl (by decide) ?_ ?_
        · intro h
          exact absurd h (nI_pos (by omega))
        · intro _
          refine wp_iload_n rfl rfl ?_
          refine wp_aload_n rfl rfl ?_
          refine st_getR rfl fX6_44 rfl (by assumption) (by assumption) ?_
          refine wp_iload rfl rfl ?_
          refine st_iald rfl (by assumption) rfl (by omega) (by first | decide | omega) ((hT x hxt).2.1) ?_
          refine wp_iadd rfl ?_
          refine wp_istore_n rfl (by decide) ?_
          refine wp_inc rfl rfl (by decide) ?_
          refine wp_aload_n rfl rfl ?_
          refine wp_iload_n rfl rfl ?_
          refine wp_aload_n rfl rfl ?_
          refine st_getR rfl fX6_47 rfl (by assumption) (by assumption) ?_
          refine wp_iload_n rfl rfl ?_
          refine st_iald rfl (by assumption) rfl (by omega) (by first | decide | omega) (t2.trans hpq) ?_
          refine wp_aload_n rfl rfl ?_
          refine wp_iload rfl rfl ?_
          refine wp_V1 rfl mX6_mustGo_139 (k0) (Nat.le_of_ble_eq_true rfl) (r_rank hS hR hF hxt) ?_
          rintro _ _ ⟨rfl, rfl⟩
          refine wp_V3 rfl mX6_mustGo_146 (k0) (Nat.le_of_ble_eq_true rfl) (r_head (l1 := l1 ++ [x]) (l2 := l2) hS hR hF (by omega) (by omega) (a := rkN S.2.2.2.2.1 x + 1) (by have := rk_lt hF hxt; omega) (nI_pred _).symm (by rw [List.append_assoc]; exact hl) sn1 sn2) ?_
          have hlen := hlenc l1 (x :: l2) hl
          rintro _ _ ⟨rfl, ⟨rfl, e⟩ | ⟨x', l', rfl, e⟩⟩
          · subst e
            refine wp_istore rfl (by decide) ?_
            refine wp_goto (tgt := 23) rfl (by decide) ?_
            have := ih (l1 ++ [x]) (room + S.2.2.2.2.1 x 1) (-1) (by rw [List.append_assoc]; exact hl) rfl (by rw [← he]; simp)
            rw [List.length_append] at this
            exact this
          · subst e
            refine wp_istore rfl (by decide) ?_
            refine wp_goto (tgt := 23) rfl (by decide) ?_
            have := ih (l1 ++ [x]) (room + S.2.2.2.2.1 x 1) (nI x') (by rw [List.append_assoc]; exact hl) rfl (by rw [← he]; simp)
            rw [List.length_append] at this
            exact this
  refine wp_aload_n rfl rfl ?_
  refine wp_iload_n rfl rfl ?_
  refine wp_V1 rfl mX6_mustGo_143 (k0) (Nat.le_of_ble_eq_true rfl) (r_free hS hR hF hw) ?_
  rintro _ _ ⟨rfl, rfl⟩
  refine wp_istore_n rfl (by decide) ?_
  refine wp_iconst (v := 0) rfl (by decide) ?_
  refine wp_istore rfl (by decide) ?_
  refine wp_aload_n rfl rfl ?_
  refine wp_iload_n rfl rfl ?_
  refine wp_aload_n rfl rfl ?_
  refine st_getR rfl fX6_47 rfl (by assumption) (by assumption) ?_
  refine wp_iload_n rfl rfl ?_
  refine st_iald rfl (by assumption) rfl (by omega) (by first | decide | omega) (t2.trans hpq) ?_
  refine wp_iconst (v := -1) rfl (by decide) ?_
  refine wp_V3 rfl mX6_mustGo_146 (k0) (Nat.le_of_ble_eq_true rfl) (r_head (l1 := []) (l2 := cL S.2.2.2.2.1 (nI w) S.2.1 pq) hS hR hF (by omega) (by omega) (a := 0) (by omega) rfl rfl (fun _ h => by cases h) (fun _ _ => Nat.zero_le _)) ?_
  rintro _ _ ⟨rfl, ⟨rfl, e⟩ | ⟨x', l', rfl, e⟩⟩
  · refine wp_istore rfl (by decide) ?_
    refine loop _ [] _ _ rfl (by rw [e]) ?_
    rw [hT2]
    rfl
  · refine wp_istore rfl (by decide) ?_
    refine loop _ [] _ _ rfl (by rw [e]) ?_
    rw [hT2]
    rfl
theorem r_workerFor {t pq : Nat} (hS : rs kd r Y) (hR : rS d Y S) (hF : sWf S) (ht : t < S.2.1) (hpq : S.2.2.2.2.1 t 2 = nI pq) (h4 : pq < 4) : Cl X kX6_workerFor [.inr (some Y), .inl (nI t)] (K, z, kd, d, r) (fun rv M' => M' = (K, z, kd, d, r) ∧ rv = some (.inl (if (sBest S.2.2.2.1 S.2.2.2.2.1 S.2.1 (S.2.2.2.2.1 t 1) S.1).1 = -1 then (sEasy S.2.2.2.1 S.2.2.2.2.1 S.2.1 (S.2.2.2.2.1 t 1) pq S.1).1 else (sBest S.2.2.2.1 S.2.2.2.2.1 S.2.1 (S.2.2.2.2.1 t 1) S.1).1))) := by
  obtain ⟨k0, r2, r3, r4, r5, r6, r7, r8, r12, r13, r15, r17, r18, r19, r20, r21, r22, r23, r24, r25, k1, k2, k3, k4, k5, k6, k7, k8, k9, k10, k11, k12, k13, k14, k15, k16, k17, k18, k19, hY⟩ := id hS
  have hwc := hF.1.1
  have htc := hF.1.2.1
  obtain ⟨e14, e16, eq, ec, hT⟩ := id hR
  obtain ⟨t0, t1, t2, t3, t4, t5, t7, t6⟩ := hT t ht
  have hfr := sWf_free hF
  refine h_ofWp oX6_workerFor (by decide) (Nat.le_of_ble_eq_true rfl) ?_
  generalize hQ : (fun (rv : Option hV) (M' : hM) => M' = (K, z, kd, d, r) ∧ rv = some (.inl (if (sBest S.2.2.2.1 S.2.2.2.2.1 S.2.1 (S.2.2.2.2.1 t 1) S.1).1 = -1 then (sEasy S.2.2.2.1 S.2.2.2.2.1 S.2.1 (S.2.2.2.2.1 t 1) pq S.1).1 else (sBest S.2.2.2.1 S.2.2.2.2.1 S.2.1 (S.2.2.2.2.1 t 1) S.1).1))) = Q
  have m1lt : (-1 : Int32) < 0 := by decide
  have second : (sBest S.2.2.2.1 S.2.2.2.2.1 S.2.1 (S.2.2.2.2.1 t 1) S.1).1 = -1 → ∀ n k v least x5, k + n = S.1 → v = (sEasy S.2.2.2.1 S.2.2.2.2.1 S.2.1 (S.2.2.2.2.1 t 1) pq k).1 → (¬ v = -1 → least = (sEasy S.2.2.2.1 S.2.2.2.2.1 S.2.1 (S.2.2.2.2.1 t 1) pq k).2) → Wp X kX6_workerFor K z 67 [some (.inr (some Y)), some (.inl (nI t)), some (.inl v), some (.inl least), some (.inl (nI k)), x5] [] (K, z, kd, d, r) Q := by
    intro hb n
    induction n with
    | zero =>
      intro k v least x5 hk hv hl
      have hk2 : k = S.1 := by omega
      refine wp_iload rfl rfl ?_
      refine wp_aload_n rfl rfl ?_
      refine st_getI rfl fX6_118 rfl (by assumption) (e14) ?_
      refine wp_icmp_ge (tgt := 112) rfl (by decide) ?_ ?_
      · intro _
        refine wp_iload_n rfl rfl ?_
        refine wp_ireturn rfl .int rfl rfl ?_
        rw [← hQ]
        exact ⟨rfl, by rw [if_pos hb, hv, hk2]⟩
      · intro h
        exact absurd (nI_le (by omega) (by omega)) h
    | succ n ih =>
      intro k v least x5 hk hv hl
      have hok := sEasy_ok S.2.2.2.1 S.2.2.2.2.1 S.2.1 (S.2.2.2.2.1 t 1) pq k
      have hlen := sOut_len2 S.2.2.2.2.1 (nI k) (S.2.2.2.2.1 t 1) S.2.1 (sFree (S.2.2.2.1 k) S.2.2.2.2.1 (nI k) S.2.1) (q := pq) (by omega)
      refine wp_iload rfl rfl ?_
      refine wp_aload_n rfl rfl ?_
      refine st_getI rfl fX6_118 rfl (by assumption) (e14) ?_
      refine wp_icmp_ge (tgt := 112) rfl (by decide) ?_ ?_
      · intro h
        exact absurd h (nI_ge (by omega) (by omega))
      · intro _
        refine wp_aload_n rfl rfl ?_
        refine wp_iload rfl rfl ?_
        refine wp_iload_n rfl rfl ?_
        refine wp_V2 rfl mX6_workerFor_149 (k0) (Nat.le_of_ble_eq_true rfl) (r_mustGo hS hR hF (by omega) ht hpq h4) ?_
        rintro _ _ ⟨rfl, rfl⟩
        have hstep : sEasy S.2.2.2.1 S.2.2.2.2.1 S.2.1 (S.2.2.2.2.1 t 1) pq (k + 1) = (if ¬ (sEasy S.2.2.2.1 S.2.2.2.2.1 S.2.1 (S.2.2.2.2.1 t 1) pq k).2 ≤ sNote S.2.2.2.2.1 (nI k) (S.2.2.2.2.1 t 1) S.2.1 (sFree (S.2.2.2.1 k) S.2.2.2.2.1 (nI k) S.2.1) pq then (nI k, sNote S.2.2.2.2.1 (nI k) (S.2.2.2.2.1 t 1) S.2.1 (sFree (S.2.2.2.1 k) S.2.2.2.2.1 (nI k) S.2.1) pq) else sEasy S.2.2.2.1 S.2.2.2.2.1 S.2.1 (S.2.2.2.2.1 t 1) pq k) := rfl
        generalize hO : sOut S.2.2.2.2.1 (nI k) (S.2.2.2.2.1 t 1) S.2.1 (sFree (S.2.2.2.1 k) S.2.2.2.2.1 (nI k) S.2.1) pq = O at hlen
        have hnote : sNote S.2.2.2.2.1 (nI k) (S.2.2.2.2.1 t 1) S.2.1 (sFree (S.2.2.2.1 k) S.2.2.2.2.1 (nI k) S.2.1) pq = if O.1 < S.2.2.2.2.1 t 1 then 21 else nI O.2.length := by rw [sNote, hO]
        rw [hnote] at hstep
        have keep : sEasy S.2.2.2.1 S.2.2.2.2.1 S.2.1 (S.2.2.2.2.1 t 1) pq (k + 1) = sEasy S.2.2.2.1 S.2.2.2.2.1 S.2.1 (S.2.2.2.2.1 t 1) pq k → ∀ x5, Wp X kX6_workerFor K z 106 [some (.inr (some Y)), some (.inl (nI t)), some (.inl v), some (.inl least), some (.inl (nI k)), x5] [] (K, z, kd, d, r) Q := by
          intro h x5
          refine wp_inc rfl rfl (by decide) ?_
          refine wp_goto (tgt := 67) rfl (by decide) ?_
          exact ih (k + 1) v least _ (by omega) (by rw [h]; exact hv) (by rw [h]; exact hl)
        have take : sEasy S.2.2.2.1 S.2.2.2.2.1 S.2.1 (S.2.2.2.2.1 t 1) pq (k + 1) = (nI k, nI O.2.length) → Wp X kX6_workerFor K z 100 [some (.inr (some Y)), some (.inl (nI t)), some (.inl v), some (.inl least), some (.inl (nI k)), some (.inl (nI O.2.length))] [] (K, z, kd, d, r) Q := by
          intro h
          refine wp_iload rfl rfl ?_
          refine wp_istore_n rfl (by decide) ?_
          refine wp_iload rfl rfl ?_
          refine wp_istore_n rfl (by decide) ?_
          refine wp_inc rfl rfl (by decide) ?_
          refine wp_goto (tgt := 67) rfl (by decide) ?_
          exact ih (k + 1) (nI k) (nI O.2.length) _ (by omega) (by rw [h]) (by rw [h]; intro _; rfl)
        by_cases hrm : O.1 < S.2.2.2.2.1 t 1
        · rw [if_pos hrm] at hstep ⊢
          rw [if_neg (fun q => q (by have := hok.1; rw [i_lt] at this; rw [i_le]; omega))] at hstep
          refine wp_istore rfl (by decide) ?_
          refine wp_iload rfl rfl ?_
          refine wp_if_lt (tgt := 106) rfl (by decide) ?_ ?_
          · intro _
            exact keep hstep _
          · intro h
            exact absurd m1lt h
        · rw [if_neg hrm] at hstep ⊢
          refine wp_istore rfl (by decide) ?_
          refine wp_iload rfl rfl ?_
          refine wp_if_lt (tgt := 106) rfl (by decide) ?_ ?_
          · intro h
            exact absurd h (nI_pos (by omega))
          · intro _
            rcases hok.2 with ⟨o1, o2⟩ | ⟨w, hw, o1, o2, o3⟩
            · rw [o2, if_pos (fun q => by rw [i_le, i_nI (by omega), show (21 : Int32).toInt = 21 by decide] at q; omega)] at hstep
              rw [o1] at hv
              subst hv
              refine wp_iload_n rfl rfl ?_
              refine wp_if_lt (tgt := 100) rfl (by decide) ?_ ?_
              · intro _
                exact take hstep
              · intro h
                exact absurd m1lt h
            · rw [o1] at hv
              have hvn : ¬ v = -1 := fun e => nI_m1 (w := w) (by omega) (by rw [← e, hv])
              have hlv := hl hvn
              subst hv
              refine wp_iload_n rfl rfl ?_
              refine wp_if_lt (tgt := 100) rfl (by decide) ?_ ?_
              · intro h
                exact absurd h (nI_pos (by omega))
              · intro _
                refine wp_iload rfl rfl ?_
                refine wp_iload_n rfl rfl ?_
                refine wp_icmp_ge (tgt := 106) rfl (by decide) ?_ ?_
                · intro h97
                  rw [if_neg (fun q => q (by rw [← hlv]; exact h97))] at hstep
                  exact keep hstep _
                · intro h97
                  rw [if_pos (by rw [← hlv]; exact h97)] at hstep
                  exact take hstep
  have first : ∀ n k x4, k + n = S.1 → Wp X kX6_workerFor K z 4 [some (.inr (some Y)), some (.inl (nI t)), some (.inl (sBest S.2.2.2.1 S.2.2.2.2.1 S.2.1 (S.2.2.2.2.1 t 1) k).1), some (.inl (nI k)), x4, none] [] (K, z, kd, d, r) Q := by
    intro n
    induction n with
    | zero =>
      intro k x4 hk
      have hk2 : k = S.1 := by omega
      subst hk2
      refine wp_iload_n rfl rfl ?_
      refine wp_aload_n rfl rfl ?_
      refine st_getI rfl fX6_118 rfl (by assumption) (e14) ?_
      refine wp_icmp_ge (tgt := 56) rfl (by decide) ?_ ?_
      · intro _
        rcases sBest_ok S.2.2.2.1 S.2.2.2.2.1 S.2.1 (S.2.2.2.2.1 t 1) S.1 with h | ⟨b, hb, h⟩
        · rw [h]
          refine wp_iload_n rfl rfl ?_
          refine wp_if_lt (tgt := 62) rfl (by decide) ?_ ?_
          · intro _
            refine wp_iconst (v := 0) rfl (by decide) ?_
            refine wp_istore_n rfl (by decide) ?_
            refine wp_iconst (v := 0) rfl (by decide) ?_
            refine wp_istore rfl (by decide) ?_
            exact second (by rw [h]) S.1 0 (-1) 0 none (by omega) rfl (fun q => absurd rfl q)
          · intro hc
            exact absurd m1lt hc
        · rw [h]
          refine wp_iload_n rfl rfl ?_
          refine wp_if_lt (tgt := 62) rfl (by decide) ?_ ?_
          · intro hc
            exact absurd hc (nI_pos (by omega))
          · intro _
            refine wp_iload_n rfl rfl ?_
            refine wp_ireturn rfl .int rfl rfl ?_
            rw [← hQ]
            refine ⟨rfl, ?_⟩
            rw [h, if_neg (fun e => nI_m1 (w := b) (by omega) e.symm)]
      · intro h
        exact absurd (nI_le (by omega) (by omega)) h
    | succ n ih =>
      intro k x4 hk
      have hkw : k < S.1 := by omega
      obtain ⟨f0, f20⟩ := hfr k hkw
      have ih' := fun x => ih (k + 1) x (by omega)
      have hstep : sBest S.2.2.2.1 S.2.2.2.2.1 S.2.1 (S.2.2.2.2.1 t 1) (k + 1) = (if ¬ sFree (S.2.2.2.1 k) S.2.2.2.2.1 (nI k) S.2.1 < S.2.2.2.2.1 t 1 ∧ ¬ (sBest S.2.2.2.1 S.2.2.2.2.1 S.2.1 (S.2.2.2.2.1 t 1) k).2 ≤ sFree (S.2.2.2.1 k) S.2.2.2.2.1 (nI k) S.2.1 then (nI k, sFree (S.2.2.2.1 k) S.2.2.2.2.1 (nI k) S.2.1) else sBest S.2.2.2.1 S.2.2.2.2.1 S.2.1 (S.2.2.2.2.1 t 1) k) := rfl
      refine wp_iload_n rfl rfl ?_
      refine wp_aload_n rfl rfl ?_
      refine st_getI rfl fX6_118 rfl (by assumption) (e14) ?_
      refine wp_icmp_ge (tgt := 56) rfl (by decide) ?_ ?_
      · intro h
        exact absurd h (nI_ge (by omega) (by omega))
      · intro _
        refine wp_aload_n rfl rfl ?_
        refine wp_iload_n rfl rfl ?_
        refine wp_V1 rfl mX6_workerFor_143 (k0) (Nat.le_of_ble_eq_true rfl) (r_free hS hR hF hkw) ?_
        rintro _ _ ⟨rfl, rfl⟩
        refine wp_istore rfl (by decide) ?_
        refine wp_iload rfl rfl ?_
        refine wp_aload_n rfl rfl ?_
        refine st_getR rfl fX6_44 rfl (by assumption) (by assumption) ?_
        refine wp_iload_n rfl rfl ?_
        refine st_iald rfl (by assumption) rfl (by omega) (by first | decide | omega) (t1) ?_
        refine wp_icmp_lt (tgt := 48) rfl (by decide) ?_ ?_
        · intro h27
          rw [if_neg (fun q => q.1 h27)] at hstep
          rw [hstep] at ih'
          refine wp_iload_n rfl rfl ?_
          refine wp_istore_n rfl (by decide) ?_
          refine wp_inc rfl rfl (by decide) ?_
          refine wp_goto (tgt := 4) rfl (by decide) ?_
          exact ih' _
        · intro h27
          rcases sBest_ok S.2.2.2.1 S.2.2.2.2.1 S.2.1 (S.2.2.2.2.1 t 1) k with h | ⟨b, hb, h⟩
          · rw [h, if_pos ⟨h27, fun q => by rw [i_le, show (21 : Int32).toInt = 21 by decide] at q; omega⟩] at hstep
            rw [hstep] at ih'
            rw [h]
            refine wp_iload_n rfl rfl ?_
            refine wp_if_lt (tgt := 44) rfl (by decide) ?_ ?_
            · intro _
              refine wp_iload_n rfl rfl ?_
              refine wp_goto (tgt := 49) rfl (by decide) ?_
              refine wp_istore_n rfl (by decide) ?_
              refine wp_inc rfl rfl (by decide) ?_
              refine wp_goto (tgt := 4) rfl (by decide) ?_
              exact ih' _
            · intro hc
              exact absurd m1lt hc
          · rw [h] at hstep
            rw [h]
            refine wp_iload_n rfl rfl ?_
            refine wp_if_lt (tgt := 44) rfl (by decide) ?_ ?_
            · intro hc
              exact absurd hc (nI_pos (by omega))
            · intro _
              refine wp_iload rfl rfl ?_
              refine wp_aload_n rfl rfl ?_
              refine wp_iload_n rfl rfl ?_
              refine wp_V1 rfl mX6_workerFor_143 (k0) (Nat.le_of_ble_eq_true rfl) (r_free hS hR hF (by omega)) ?_
              rintro _ _ ⟨rfl, rfl⟩
              refine wp_icmp_ge (tgt := 48) rfl (by decide) ?_ ?_
              · intro h41
                rw [if_neg (fun q => q.2 h41)] at hstep
                rw [hstep] at ih'
                refine wp_iload_n rfl rfl ?_
                refine wp_istore_n rfl (by decide) ?_
                refine wp_inc rfl rfl (by decide) ?_
                refine wp_goto (tgt := 4) rfl (by decide) ?_
                exact ih' _
              · intro h41
                rw [if_pos ⟨h27, h41⟩] at hstep
                rw [hstep] at ih'
                refine wp_iload_n rfl rfl ?_
                refine wp_goto (tgt := 49) rfl (by decide) ?_
                refine wp_istore_n rfl (by decide) ?_
                refine wp_inc rfl rfl (by decide) ?_
                refine wp_goto (tgt := 4) rfl (by decide) ?_
                exact ih' _
  refine wp_iconst (v := -1) rfl (by decide) ?_
  refine wp_istore_n rfl (by decide) ?_
  refine wp_iconst (v := 0) rfl (by decide) ?_
  refine wp_istore_n rfl (by decide) ?_
  exact first S.1 0 none (by omega)
end RGO
