/-! WHAT IS DONE STAYS DONE: the invariant of the protocol -/
def cB (f : Nat → Bool) : Nat → Nat
  | 0 => 0
  | n + 1 => cB f n + (if f n = true then 1 else 0)
/-- a majority has P -/
def Mj (N : Nat) (P : Nat → Prop) : Prop := ∃ f : Nat → Bool, N < 2 * cB f N ∧ ∀ i, i < N → f i = true → P i
theorem cB_two (f g : Nat → Bool) : ∀ n, n < cB f n + cB g n → ∃ i, i < n ∧ f i = true ∧ g i = true := by
  intro n
  induction n with
  | zero => intro h; exact absurd h (by simp [cB])
  | succ n ih =>
    intro h
    by_cases a : f n = true
    · by_cases b : g n = true
      · exact ⟨n, by omega, a, b⟩
      · simp only [cB, if_pos a, if_neg b] at h
        obtain ⟨i, h1, h2⟩ := ih (by omega)
        exact ⟨i, by omega, h2⟩
    · simp only [cB, if_neg a] at h
      have : (if g n = true then 1 else 0) ≤ 1 := by split <;> omega
      obtain ⟨i, h1, h2⟩ := ih (by omega)
      exact ⟨i, by omega, h2⟩
theorem cB_set {f : Nat → Bool} {j : Nat} (hf : f j = false) : ∀ n, cB (hu1 f j true) n = cB f n + (if j < n then 1 else 0) := by
  intro n
  induction n with
  | zero => rfl
  | succ n ih =>
    simp only [cB, ih]
    by_cases e : n = j
    · subst e
      rw [if_neg (Nat.lt_irrefl _), hu1_s, if_pos rfl, if_pos (Nat.lt_succ_self _), hf, if_neg (by decide)]
    · rw [hu1_n e]
      by_cases q : j < n
      · rw [if_pos q, if_pos (show j < n + 1 by omega)]; omega
      · rw [if_neg q, if_neg (show ¬ j < n + 1 by omega)]; omega
theorem Mj.mono {N : Nat} {P Q : Nat → Prop} (h : Mj N P) (hpq : ∀ i, i < N → P i → Q i) : Mj N Q := by
  obtain ⟨f, h1, h2⟩ := h
  exact ⟨f, h1, fun i hi hf => hpq i hi (h2 i hi hf)⟩
theorem Mj.inter {N : Nat} {P Q : Nat → Prop} (h : Mj N P) (h' : Mj N Q) : ∃ i, i < N ∧ P i ∧ Q i := by
  obtain ⟨f, h1, h2⟩ := h
  obtain ⟨g, h3, h4⟩ := h'
  obtain ⟨i, hi, a, b⟩ := cB_two f g N (by omega)
  exact ⟨i, hi, h2 i hi a, h4 i hi b⟩
/-- C, of length c, stands at the head of log i -/
def hd (l : Nat → Nat) (g : Nat → Nat → Nat → Int32) (i c : Nat) (C : Nat → Nat → Int32) : Prop := c ≤ l i ∧ ∀ k, k < c → g i k = C k
def IvE (N : Nat) (n l d : Nat → Nat) (g : Nat → Nat → Nat → Int32) (w c : Nat) (C : Nat → Nat → Int32) : Prop :=
  (∀ i, i < N → d i ≤ c ∧ ∀ k, k < d i → g i k = C k) ∧ Mj N (fun i => w ≤ n i ∧ hd l g i c C) ∧ (∀ i, i < N → w < n i → hd l g i c C) ∧ (∀ i, i < N → n i = w → ∀ k, k < c → k < l i → g i k = C k) ∧ (n (w % N) = w → c ≤ l (w % N))
def Iv (N : Nat) (v n l d : Nat → Nat) (g : Nat → Nat → Nat → Int32) : Prop :=
  (∀ i, i < N → n i ≤ v i ∧ d i ≤ l i ∧ l i ≤ 60) ∧ (∀ i, i < N → n i ≤ n (n i % N)) ∧
  (∀ i j, i < N → j < N → n i = n j → ∀ k, k < l i → k < l j → g i k = g j k) ∧ (∀ i, i < N → n (n i % N) = n i → l i ≤ l (n i % N)) ∧
  (∀ i, i < N → Mj N (fun j => n i ≤ v j)) ∧ (∃ w c C, IvE N n l d g w c C) ∧
  (∀ i j, i < N → j < N → n j < n i → d j ≤ l i ∧ ∀ k, k < d j → g j k = g i k) ∧
  (∀ i, i < N → ∀ a b, a < b → b < l i → g i a 0 = g i b 0 → g i a 1 < g i b 1)
section INV
variable {N m j : Nat} {v n l d v' n' l' d' : Nat → Nat} {g g' : Nat → Nat → Nat → Int32}
/-- the leader's log holds what is done -/
theorem ivE_lead {w c : Nat} {C : Nat → Nat → Int32} (hE : IvE N n l d g w c C) (hm : m < N) (hld : n m % N = m) (hw : w ≤ n m) : hd l g m c C := by
  obtain ⟨e1, e2, e3, e4, e5⟩ := hE
  rcases Nat.lt_or_ge w (n m) with h | h
  · exact e3 m hm h
  · have hwm : n m = w := by omega
    have hL : w % N = m := by rw [← hwm]; exact hld
    rw [hL] at e5
    have hc := e5 hwm
    exact ⟨hc, fun k hk => e4 m hm hwm k hk (by omega)⟩
theorem iv_raise (h : Iv N v n l d g) (hv : ∀ i, i < N → v i ≤ v' i) : Iv N v' n l d g := by
  obtain ⟨h1, h2, h3, h4, h5, h6⟩ := h
  refine ⟨fun i hi => ⟨Nat.le_trans (h1 i hi).1 (hv i hi), (h1 i hi).2⟩, h2, h3, h4, fun i hi => (h5 i hi).mono (fun j hj q => Nat.le_trans q (hv j hj)), h6⟩
theorem iv_follow (h : Iv N v n l d g) (hm : m < N) (hj : j < N) (hne : j ≠ m) (hnm : n m = v m) (hld : v m % N = m) (hle : v j ≤ v m) (o : ∀ i, i ≠ j → v' i = v i ∧ n' i = n i ∧ l' i = l i ∧ d' i = d i ∧ g' i = g i) (e : v' j = v m ∧ n' j = v m ∧ l' j = l m ∧ d' j = (if d j < d m then d m else d j) ∧ g' j = g m) :
    Iv N v' n' l' d' g' ∧ d j ≤ d' j ∧ ∀ k, k < d j → g' j k = g j k := by
  obtain ⟨h1, h2, h3, h4, h5, ⟨w, c, C, hE⟩, h7, h8⟩ := id h
  obtain ⟨ev, en, el, ed, eg⟩ := e
  have hnj := (h1 j hj).1
  have hF : d j ≤ l m ∧ ∀ k, k < d j → g j k = g m k := by
    rcases Nat.lt_or_ge (n j) (n m) with q | q
    · exact h7 m j hm hj q
    · have hq : n j = n m := by omega
      have hL : n j % N = m := by rw [hq, hnm]; exact hld
      have h9 := h4 j hj
      rw [hL] at h9
      have hl := h9 hq.symm
      have hdl := (h1 j hj).2.1
      exact ⟨by omega, fun k hk => h3 j m hj hm hq k (by omega) (by omega)⟩
  have hdm := (h1 m hm).2.1
  have hd1 : d j ≤ d' j := by rw [ed]; split <;> omega
  have hd2 : d' j ≤ l m := by rw [ed]; split <;> omega
  have hvv : ∀ i, i < N → v i ≤ v' i := fun i _ => by
    by_cases q : i = j
    · subst q; omega
    · rw [(o i q).1]; exact Nat.le_refl _
  have hC : w ≤ n m → hd l g m c C := fun q => ivE_lead hE hm (by rw [hnm]; exact hld) q
  obtain ⟨e1, e2, e3, e4, e5⟩ := id hE
  refine ⟨⟨fun i hi => ?_, fun i hi => ?_, fun a b ha hb => ?_, fun i hi => ?_, fun i hi => ?_, ⟨w, c, C, fun i hi => ?_, ?_, fun i hi => ?_, fun i hi => ?_, ?_⟩, fun a b ha hb => ?_, fun i hi => ?_⟩, hd1, fun k hk => ?_⟩
  · by_cases q : i = j
    · subst q
      rw [ev, en, el]
      exact ⟨Nat.le_refl _, hd2, (h1 m hm).2.2⟩
    · obtain ⟨o1, o2, o3, o4, o5⟩ := o i q
      rw [o1, o2, o3, o4]
      exact h1 i hi
  · by_cases q : i = j
    · subst q
      rw [en, hld, (o m (fun x => hne x.symm)).2.1]
      omega
    · rw [(o i q).2.1]
      by_cases q2 : n i % N = j
      · rw [q2, en]
        have := h2 i hi
        rw [q2] at this
        omega
      · rw [(o _ q2).2.1]
        exact h2 i hi
  · by_cases q : a = j
    · by_cases q2 : b = j
      · subst q; subst q2
        intro _ k _ _
        rfl
      · subst q
        obtain ⟨o1, o2, o3, o4, o5⟩ := o b q2
        rw [en, o2, el, o3, eg, o5]
        intro hq
        exact h3 m b hm hb (by omega)
    · obtain ⟨o1, o2, o3, o4, o5⟩ := o a q
      by_cases q2 : b = j
      · subst q2
        rw [en, o2, el, o3, eg, o5]
        intro hq
        exact h3 a m ha hm (by omega)
      · obtain ⟨p1, p2, p3, p4, p5⟩ := o b q2
        rw [o2, o3, o5, p2, p3, p5]
        exact h3 a b ha hb
  · by_cases q : i = j
    · subst q
      rw [en, hld, (o m (fun x => hne x.symm)).2.2.1, el]
      intro _
      exact Nat.le_refl _
    · obtain ⟨o1, o2, o3, o4, o5⟩ := o i q
      rw [o2, o3]
      by_cases q2 : n i % N = j
      · rw [q2, en]
        intro hq
        rw [← hq, hld] at q2
        exact absurd q2.symm hne
      · rw [(o _ q2).2.1, (o _ q2).2.2.1]
        exact h4 i hi
  · by_cases q : i = j
    · subst q
      rw [en]
      exact (h5 m hm).mono (fun x hx y => by have := hvv x hx; omega)
    · rw [(o i q).2.1]
      exact (h5 i hi).mono (fun x hx y => Nat.le_trans y (hvv x hx))
  · by_cases q : i = j
    · subst q
      rw [ed, eg]
      split
      · exact e1 m hm
      · exact ⟨(e1 i hi).1, fun k hk => by rw [← hF.2 k hk]; exact (e1 i hi).2 k hk⟩
    · rw [(o i q).2.2.2.1, (o i q).2.2.2.2]
      exact e1 i hi
  · refine e2.mono (fun i hi hq => ?_)
    by_cases q : i = j
    · subst q
      have hw : w ≤ n m := by omega
      refine ⟨by omega, ?_⟩
      unfold hd
      rw [el, eg]
      exact hC hw
    · unfold hd
      rw [(o i q).2.1, (o i q).2.2.1, (o i q).2.2.2.2]
      exact hq
  · by_cases q : i = j
    · subst q
      unfold hd
      rw [en, el, eg]
      intro hw
      exact hC (by omega)
    · unfold hd
      rw [(o i q).2.1, (o i q).2.2.1, (o i q).2.2.2.2]
      exact e3 i hi
  · by_cases q : i = j
    · subst q
      rw [en, el, eg]
      intro hw k hk _
      exact (hC (by omega)).2 k hk
    · rw [(o i q).2.1, (o i q).2.2.1, (o i q).2.2.2.2]
      exact e4 i hi
  · by_cases q : w % N = j
    · rw [q, en]
      intro hw
      rw [← hw, hld] at q
      exact absurd q.symm hne
    · rw [(o _ q).2.1, (o _ q).2.2.1]
      exact e5
  · by_cases q : a = j
    · subst q
      by_cases q2 : b = a
      · subst q2
        intro hq
        exact absurd hq (Nat.lt_irrefl _)
      · obtain ⟨p1, p2, p3, p4, p5⟩ := o b q2
        rw [en, el, eg, p2, p4, p5]
        intro hq
        exact h7 m b hm hb (by omega)
    · obtain ⟨o1, o2, o3, o4, o5⟩ := o a q
      by_cases q2 : b = j
      · subst q2
        rw [en, ed, eg, o2, o3, o5]
        intro hq
        have f1 := h7 a m ha hm (by omega)
        have f2 := h7 a b ha hb (by omega)
        split
        · exact f1
        · exact ⟨f2.1, fun k hk => by rw [← hF.2 k hk]; exact f2.2 k hk⟩
      · obtain ⟨p1, p2, p3, p4, p5⟩ := o b q2
        rw [o2, o3, o5, p2, p4, p5]
        exact h7 a b ha hb
  · by_cases q : i = j
    · subst q
      rw [el, eg]
      exact h8 m hm
    · rw [(o i q).2.2.1, (o i q).2.2.2.2]
      exact h8 i hi
  · rw [eg]
    exact (hF.2 k hk).symm
theorem iv_lead {f : Nat → Bool} {b e : Nat} (h : Iv N v n l d g) (hm : m < N) (hld : v m % N = m) (hmaj : N < 2 * cB f N) (hf : ∀ q, q < N → f q = true → v q = v m ∧ n q < v m) (hfm : f m = true) (hb : b < N) (hfb : f b = true) (hbest : ∀ q, q < N → f q = true → n q < n b ∨ n q = n b ∧ l q ≤ l b) (he1 : ∀ q, q < N → f q = true → d q ≤ e) (he2 : ∃ q, q < N ∧ f q = true ∧ d q = e)
    (o : ∀ i, i ≠ m → n' i = n i ∧ l' i = l i ∧ d' i = d i ∧ g' i = g i) (ee : n' m = v m ∧ l' m = l b ∧ d' m = e ∧ g' m = g b) :
    Iv N v n' l' d' g' ∧ d m ≤ d' m ∧ ∀ k, k < d m → g' m k = g m k := by
  obtain ⟨h1, h2, h3, h4, h5, ⟨w, c, C, hE⟩, h7, h8⟩ := id h
  obtain ⟨en, el, ed, eg⟩ := ee
  obtain ⟨e1, e2, e3, e4, e5⟩ := id hE
  have hF : Mj N (fun q => f q = true) := ⟨f, hmaj, fun i _ hi => hi⟩
  have hlt : ∀ x, x < N → n x < v m := fun x hx => by
    obtain ⟨q, hq, a1, a2⟩ := (h5 x hx).inter hF
    have := (hf q hq a2).1
    rcases Nat.lt_or_ge (n x) (v m) with y | y
    · exact y
    · have hxe : n x = v m := by omega
      have := h2 x hx
      rw [hxe, hld] at this
      have := (hf m hm hfm).2
      omega
  obtain ⟨q, hq, ⟨a1, a2, a3⟩, a4⟩ := e2.inter hF
  have hqv := (hf q hq a4).2
  have hC : hd l g b c C := by
    have hb1 := hbest q hq a4
    rcases Nat.lt_or_ge w (n b) with y | y
    · exact e3 b hb y
    · have hwb : n b = w := by omega
      exact ⟨by omega, fun k hk => e4 b hb hwb k hk (by omega)⟩
  obtain ⟨q2, hq2, b1, b2⟩ := he2
  have hec : e ≤ c := by rw [← b2]; exact (e1 q2 hq2).1
  have hst : ∀ x, x < N → d x ≤ l b ∧ ∀ k, k < d x → g x k = g b k := fun x hx => ⟨Nat.le_trans (e1 x hx).1 hC.1, fun k hk => by
    rw [(e1 x hx).2 k hk, hC.2 k (Nat.lt_of_lt_of_le hk (e1 x hx).1)]⟩
  refine ⟨⟨fun i hi => ?_, fun i hi => ?_, fun a b ha hb => ?_, fun i hi => ?_, fun i hi => ?_, ⟨w, c, C, fun i hi => ?_, ?_, fun i hi => ?_, fun i hi => ?_, ?_⟩, fun a x ha hx => ?_, fun i hi => ?_⟩, by rw [ed]; exact he1 m hm hfm, fun k hk => ?_⟩
  · by_cases y : i = m
    · subst y
      rw [en, el, ed]
      exact ⟨Nat.le_refl _, Nat.le_trans hec hC.1, (h1 b hb).2.2⟩
    · rw [(o i y).1, (o i y).2.1, (o i y).2.2.1]
      exact h1 i hi
  · by_cases y : i = m
    · subst y
      rw [en, hld, en]
      exact Nat.le_refl _
    · rw [(o i y).1]
      by_cases y2 : n i % N = m
      · rw [y2, en]
        exact Nat.le_of_lt (hlt i hi)
      · rw [(o _ y2).1]
        exact h2 i hi
  · by_cases y : a = m
    · by_cases y2 : b = m
      · subst y; subst y2
        intro _ k _ _
        rfl
      · subst y
        rw [en, (o b y2).1]
        intro hc
        have := hlt b hb
        omega
    · by_cases y2 : b = m
      · subst y2
        rw [en, (o a y).1]
        intro hc
        have := hlt a ha
        omega
      · rw [(o a y).1, (o a y).2.1, (o a y).2.2.2, (o b y2).1, (o b y2).2.1, (o b y2).2.2.2]
        exact h3 a b ha hb
  · by_cases y : i = m
    · subst y
      rw [en, hld]
      intro _
      exact Nat.le_refl _
    · rw [(o i y).1, (o i y).2.1]
      by_cases y2 : n i % N = m
      · rw [y2, en]
        intro hc
        have := hlt i hi
        omega
      · rw [(o _ y2).1, (o _ y2).2.1]
        exact h4 i hi
  · by_cases y : i = m
    · subst y
      rw [en]
      exact hF.mono (fun x hx hfx => Nat.le_of_eq (hf x hx hfx).1.symm)
    · rw [(o i y).1]
      exact h5 i hi
  · by_cases y : i = m
    · subst y
      rw [ed, eg]
      exact ⟨hec, fun k hk => hC.2 k (by omega)⟩
    · rw [(o i y).2.2.1, (o i y).2.2.2]
      exact e1 i hi
  · refine e2.mono (fun i hi hq => ?_)
    by_cases y : i = m
    · subst y
      refine ⟨by omega, ?_⟩
      unfold hd
      rw [el, eg]
      exact hC
    · unfold hd
      rw [(o i y).1, (o i y).2.1, (o i y).2.2.2]
      exact hq
  · by_cases y : i = m
    · subst y
      unfold hd
      rw [el, eg]
      intro _
      exact hC
    · unfold hd
      rw [(o i y).1, (o i y).2.1, (o i y).2.2.2]
      exact e3 i hi
  · by_cases y : i = m
    · subst y
      rw [en]
      intro hc
      omega
    · rw [(o i y).1, (o i y).2.1, (o i y).2.2.2]
      exact e4 i hi
  · by_cases y : w % N = m
    · rw [y, en]
      intro hc
      omega
    · rw [(o _ y).1, (o _ y).2.1]
      exact e5
  · by_cases y : a = m
    · subst y
      by_cases y2 : x = a
      · subst y2
        intro hc
        exact absurd hc (Nat.lt_irrefl _)
      · rw [el, eg, (o x y2).2.2.1, (o x y2).2.2.2]
        intro _
        exact hst x hx
    · by_cases y2 : x = m
      · subst y2
        rw [en, (o a y).1]
        intro hc
        have := hlt a ha
        omega
      · rw [(o a y).1, (o a y).2.1, (o a y).2.2.2, (o x y2).1, (o x y2).2.2.1, (o x y2).2.2.2]
        exact h7 a x ha hx
  · by_cases y : i = m
    · subst y
      rw [el, eg]
      exact h8 b hb
    · rw [(o i y).2.1, (o i y).2.2.2]
      exact h8 i hi
  · rw [eg]
    exact ((hst m hm).2 k hk).symm
theorem iv_append {w7 : Nat → Int32} (h : Iv N v n l d g) (hm : m < N) (hnm : n m = v m) (hld : v m % N = m) (h60 : l m < 60) (hnew : ∀ k, k < l m → g m k 0 = w7 0 → g m k 1 < w7 1)
    (o : ∀ i, i ≠ m → l' i = l i ∧ g' i = g i) (ee : l' m = l m + 1 ∧ (∀ k, k ≠ l m → g' m k = g m k) ∧ g' m (l m) = w7) : Iv N v n l' d g' := by
  obtain ⟨h1, h2, h3, h4, h5, ⟨w, c, C, hE⟩, h7, h8⟩ := id h
  obtain ⟨el, eg, eo⟩ := ee
  obtain ⟨e1, e2, e3, e4, e5⟩ := id hE
  have hlead : ∀ i, i < N → n i = n m → l i ≤ l m := fun i hi hq => by
    have := h4 i hi
    rw [hq, hnm, hld] at this
    exact this (by rw [hnm])
  have hdm := (h1 m hm).2.1
  have hle : ∀ i, l i ≤ l' i := fun i => by
    by_cases y : i = m
    · subst y; omega
    · rw [(o i y).1]; exact Nat.le_refl _
  have hg : ∀ i k, k < l i → g' i k = g i k := fun i k hk => by
    by_cases y : i = m
    · subst y; exact eg k (by omega)
    · rw [(o i y).2]
  refine ⟨fun i hi => ?_, h2, fun a b ha hb hq k hka hkb => ?_, fun i hi hq => ?_, h5, ⟨w, c, C, fun i hi => ⟨(e1 i hi).1, fun k hk => ?_⟩, ?_, fun i hi hq => ?_, fun i hi hq k hk hkl => ?_, fun hq => Nat.le_trans (e5 hq) (hle _)⟩, fun a b ha hb hq => ?_, fun i hi a b hab hb hq => ?_⟩
  · by_cases y : i = m
    · subst y
      exact ⟨(h1 i hi).1, by omega, by omega⟩
    · rw [(o i y).1]
      exact h1 i hi
  · by_cases y : a = m
    · subst y
      by_cases y2 : b = a
      · subst y2; rfl
      · have := hlead b hb hq.symm
        rw [(o b y2).1] at hkb
        rw [hg a k (by omega), hg b k hkb]
        exact h3 a b ha hb hq k (by omega) hkb
    · by_cases y2 : b = m
      · subst y2
        have := hlead a ha hq
        rw [(o a y).1] at hka
        rw [hg b k (by omega), hg a k hka]
        exact h3 a b ha hb hq k hka (by omega)
      · rw [(o a y).1] at hka
        rw [(o b y2).1] at hkb
        rw [hg a k hka, hg b k hkb]
        exact h3 a b ha hb hq k hka hkb
  · by_cases y : i = m
    · subst y
      rw [hnm, hld]
      exact Nat.le_refl _
    · rw [(o i y).1]
      exact Nat.le_trans (h4 i hi hq) (hle _)
  · rw [hg i k (by have := (h1 i hi).2.1; omega)]
    exact (e1 i hi).2 k hk
  · exact e2.mono (fun i hi hq => ⟨hq.1, Nat.le_trans hq.2.1 (hle i), fun k hk => by rw [hg i k (by have := hq.2.1; omega)]; exact hq.2.2 k hk⟩)
  · have := e3 i hi hq
    exact ⟨Nat.le_trans this.1 (hle i), fun k hk => by rw [hg i k (by have := this.1; omega)]; exact this.2 k hk⟩
  · by_cases y : i = m
    · subst y
      have hL := ivE_lead hE hi (by rw [hnm]; exact hld) (by omega)
      rw [hg i k (by have := hL.1; omega)]
      exact hL.2 k hk
    · rw [(o i y).1] at hkl
      rw [hg i k hkl]
      exact e4 i hi hq k hk hkl
  · have := h7 a b ha hb hq
    refine ⟨Nat.le_trans this.1 (hle a), fun k hk => ?_⟩
    rw [hg b k (by have := (h1 b hb).2.1; omega), hg a k (by omega)]
    exact this.2 k hk
  · by_cases y : i = m
    · subst y
      rw [el] at hb
      by_cases y2 : b = l i
      · subst y2
        rw [eo] at hq ⊢
        rw [eg a (by omega)] at hq ⊢
        exact hnew a hab hq
      · rw [eg a (by omega), eg b y2] at hq ⊢
        exact h8 i hi a b hab (by omega) hq
    · rw [(o i y).1] at hb
      rw [(o i y).2] at hq ⊢
      exact h8 i hi a b hab hb hq
theorem iv_commit {f : Nat → Bool} (h : Iv N v n l d g) (hm : m < N) (hnm : n m = v m) (hld : v m % N = m) (hmaj : N < 2 * cB f N) (hf : ∀ q, q < N → f q = true → v q = v m ∧ n q = v m ∧ l q = l m ∧ g q = g m) (o : ∀ i, i ≠ m → d' i = d i) (ee : d' m = l m) : Iv N v n l d' g := by
  obtain ⟨h1, h2, h3, h4, h5, ⟨w, c, C, hE⟩, h7, h8⟩ := id h
  obtain ⟨e1, e2, e3, e4, e5⟩ := id hE
  have hF : Mj N (fun q => f q = true) := ⟨f, hmaj, fun i _ hi => hi⟩
  have hle : ∀ x, x < N → n x ≤ v m := fun x hx => by
    obtain ⟨q, hq, a1, a2⟩ := (h5 x hx).inter hF
    have := (hf q hq a2).1
    omega
  obtain ⟨q, hq, ⟨a1, -, -⟩, a4⟩ := e2.inter hF
  have hC : hd l g m c C := ivE_lead hE hm (by rw [hnm]; exact hld) (by have := (hf q hq a4).2.1; omega)
  refine ⟨fun i hi => ?_, h2, h3, h4, h5, ⟨v m, l m, g m, fun i hi => ?_, ?_, fun i hi hq => ?_, fun i hi hq k hk hkl => ?_, fun _ => by rw [hld]; exact Nat.le_refl _⟩, fun a b ha hb hq => ?_, h8⟩
  · by_cases y : i = m
    · subst y
      rw [ee]
      exact ⟨(h1 i hi).1, Nat.le_refl _, (h1 i hi).2.2⟩
    · rw [o i y]
      exact h1 i hi
  · by_cases y : i = m
    · subst y
      rw [ee]
      exact ⟨Nat.le_refl _, fun k _ => rfl⟩
    · rw [o i y]
      exact ⟨Nat.le_trans (e1 i hi).1 hC.1, fun k hk => by rw [(e1 i hi).2 k hk, hC.2 k (Nat.lt_of_lt_of_le hk (e1 i hi).1)]⟩
  · refine hF.mono (fun x hx hfx => ?_)
    obtain ⟨b1, b2, b3, b4⟩ := hf x hx hfx
    exact ⟨by omega, by omega, fun k _ => by rw [b4]⟩
  · exact absurd (hle i hi) (by omega)
  · exact h3 i m hi hm (by omega) k hkl hk
  · by_cases y : b = m
    · subst y
      exact absurd (hle a ha) (by omega)
    · rw [o b y]
      exact h7 a b ha hb hq
/-- all agree about what is done -/
theorem iv_agree (h : Iv N v n l d g) {a b : Nat} (ha : a < N) (hb : b < N) {k : Nat} (hka : k < d a) (hkb : k < d b) : g a k = g b k := by
  obtain ⟨h1, h2, h3, h4, h5, ⟨w, c, C, e1, e2⟩, h7, h8⟩ := h
  rw [(e1 a ha).2 k hka, (e1 b hb).2 k hkb]
theorem iv_0 (h0 : 0 < N) : Iv N (fun _ => 0) (fun _ => 0) (fun _ => 0) (fun _ => 0) (fun _ _ _ => 0) := by
  have hM : ∀ P : Nat → Prop, (∀ i, P i) → 0 < N → Mj N P := fun P hP h0 => by
    refine ⟨fun _ => true, ?_, fun i _ _ => hP i⟩
    have : ∀ n, cB (fun _ => true) n = n := fun n => by
      induction n with
      | zero => rfl
      | succ n ih => simp only [cB, ih, if_true]
    rw [this]
    omega
  exact ⟨fun i _ => ⟨Nat.le_refl _, Nat.le_refl _, Nat.zero_le _⟩, fun i _ => Nat.le_refl _, fun i j _ _ _ k _ _ => rfl, fun i _ _ => Nat.le_refl _, fun i _ => hM _ (fun _ => Nat.le_refl _) h0, ⟨0, 0, fun _ _ => 0, fun i _ => ⟨Nat.le_refl _, fun k _ => rfl⟩, hM _ (fun i => ⟨Nat.le_refl _, Nat.le_refl _, fun k _ => rfl⟩) h0, fun i _ h => absurd h (Nat.lt_irrefl _), fun i _ _ k _ _ => rfl, fun _ => Nat.le_refl _⟩, fun i j _ _ h => absurd h (Nat.lt_irrefl _), fun i _ a b _ hb => absurd hb (Nat.not_lt_zero b)⟩
end INV
