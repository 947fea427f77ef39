/-! chains of masters -/
def wk (s : Sx) : Nat → Nat → Nat
  | 0, c => c
  | n + 1, c => if c = 0 then 0 else wk s n (s 0 (c - 1))
theorem wk_z (s : Sx) : ∀ n, wk s n 0 = 0
  | 0 => rfl
  | n + 1 => by simp [wk]
theorem wk_add (s : Sx) : ∀ a b c, wk s (a + b) c = wk s b (wk s a c)
  | 0, b, c => by simp [wk]
  | a + 1, b, c => by
    rw [show a + 1 + b = (a + b) + 1 by omega]
    by_cases e : c = 0
    · subst e; simp [wk, wk_z]
    · simp only [wk, e, if_false]; exact wk_add s a b _
theorem anc_wk (s : Sx) (u : Nat) : ∀ n c, anc s u n c = true ↔ ∃ i, i < n ∧ wk s i c = u + 1
  | 0, c => by simp [anc]
  | n + 1, c => by
    by_cases e : c = 0
    · subst e
      simp only [anc, if_true, Bool.false_eq_true, false_iff]
      rintro ⟨i, -, h⟩
      rw [wk_z] at h; omega
    · by_cases e2 : c = u + 1
      · simp only [anc, e2, if_true]
        refine ⟨fun _ => ⟨0, by omega, rfl⟩, fun _ => by simp⟩
      · simp only [anc, e, e2, if_false]
        rw [anc_wk s u n]
        constructor
        · rintro ⟨i, hi, h⟩
          exact ⟨i + 1, by omega, by simp only [wk, e, if_false]; exact h⟩
        · rintro ⟨i, hi, h⟩
          match i, hi, h with
          | 0, _, h => exact absurd h e2
          | i + 1, hi, h => exact ⟨i, by omega, by simp only [wk, e, if_false] at h; exact h⟩
theorem anc_no {s : Sx} {u n c : Nat} (h : anc s u n c = false) {i : Nat} (hi : i < n) : wk s i c ≠ u + 1 := by
  intro z
  have := (anc_wk s u n c).mpr ⟨i, hi, z⟩
  rw [h] at this
  exact absurd this (by decide)
theorem anc_cong {s s' : Sx} (h : s 0 = s' 0) (u : Nat) : ∀ n c, anc s u n c = anc s' u n c
  | 0, _ => rfl
  | n + 1, c => by simp only [anc, h]; rw [anc_cong h u n]
theorem least_n {P : Nat → Prop} : ∀ n, (∃ j, j ≤ n ∧ P j) → ∃ j, j ≤ n ∧ P j ∧ ∀ i, i < j → ¬ P i := by
  intro n
  induction n with
  | zero =>
    rintro ⟨j, hj, h⟩
    exact ⟨j, hj, h, fun i hi => absurd hi (by omega)⟩
  | succ n ih =>
    rintro ⟨j, hj, h⟩
    by_cases e : ∃ j, j ≤ n ∧ P j
    · obtain ⟨i, h1, h2⟩ := ih e
      exact ⟨i, by omega, h2⟩
    · exact ⟨j, hj, h, fun i hi z => e ⟨i, by omega, z⟩⟩
theorem wk_agree {s : Sx} {p v : Nat} : ∀ n c, (∀ j, j < n → wk s j c ≠ p + 1) → wk (up s 0 p v) n c = wk s n c
  | 0, c, _ => rfl
  | n + 1, c, h => by
    by_cases e : c = 0
    · subst e; simp [wk]
    · have h0 : c ≠ p + 1 := h 0 (by omega)
      simp only [wk, e, if_false]
      have : up s 0 p v 0 (c - 1) = s 0 (c - 1) := by
        unfold up
        rw [if_neg (by omega)]
      rw [this]
      exact wk_agree n _ (fun j hj => by have := h (j + 1) (by omega); simpa [wk, e] using this)
theorem acy_up {s : Sx} {p c : Nat} (h : acy s) (hp : p < 8) (hc : c ≤ 8) (hn : c = 0 ∨ (c ≠ p + 1 ∧ anc s p 8 (s 0 (c - 1)) = false)) : acy (up s 0 p c) := by
  intro k hk
  rcases Bool.eq_false_or_eq_true (anc (up s 0 p c) k 8 (up s 0 p c 0 k)) with e | e
  case inr => exact e
  exfalso
  obtain ⟨i, hi, hw⟩ := (anc_wk _ _ _ _).mp e
  have hw1 : wk (up s 0 p c) (i + 1) (k + 1) = k + 1 := by simp only [wk]; simpa using hw
  by_cases hv : ∃ j, j ≤ i ∧ wk s j (k + 1) = p + 1
  case neg =>
    rw [wk_agree _ _ (fun j hj z => hv ⟨j, by omega, z⟩)] at hw1
    have : wk s i (s 0 k) = k + 1 := by simpa [wk] using hw1
    exact anc_no (h k hk) hi this
  obtain ⟨j, hj, hjp, hmin⟩ := least_n i hv
  have hj' : wk (up s 0 p c) j (k + 1) = p + 1 := by rw [wk_agree _ _ hmin]; exact hjp
  have r1 : wk (up s 0 p c) (i + 1 - j) (p + 1) = k + 1 := by
    rw [← hj', ← wk_add, show j + (i + 1 - j) = i + 1 by omega]; exact hw1
  have r2 : wk (up s 0 p c) (i + 1) (p + 1) = p + 1 := by
    rw [show i + 1 = (i + 1 - j) + j by omega, wk_add, r1]; exact hj'
  have r3 : wk (up s 0 p c) i c = p + 1 := by
    have e0 : up s 0 p c 0 p = c := by simp [up]
    simp only [wk] at r2
    simpa [e0] using r2
  have r4 : ∃ m, m ≤ i ∧ wk s m c = p + 1 := by
    by_cases hh : ∃ m, m < i ∧ wk s m c = p + 1
    · obtain ⟨m, h1, h2⟩ := hh; exact ⟨m, by omega, h2⟩
    · rw [wk_agree _ _ (fun j hj z => hh ⟨j, hj, z⟩)] at r3
      exact ⟨i, by omega, r3⟩
  obtain ⟨m, hm, hmw⟩ := r4
  rcases hn with rfl | ⟨h1, h2⟩
  · rw [wk_z] at hmw; omega
  · match m, hm, hmw with
    | 0, _, hmw => exact h1 hmw
    | m + 1, hm, hmw =>
      by_cases c0 : c = 0
      · subst c0; rw [wk_z] at hmw; omega
      · simp only [wk, c0, if_false] at hmw
        exact anc_no h2 (by omega) hmw
theorem pc8_bs : ∀ n, n < 256 → ∀ j, j < 8 → bq n j = 0 → pc8 (bs n j) = pc8 n + 1 := by decide +kernel
/-- nine of eight -/
theorem pigeon {w : Nat → Nat} (h : ∀ i, i ≤ 8 → w i < 8) : ∃ i j, i < j ∧ j ≤ 8 ∧ w i = w j := by
  refine Classical.byContradiction (fun hc => ?_)
  have hne : ∀ i j, i < j → j ≤ 8 → w i ≠ w j := fun i j h1 h2 h3 => hc ⟨i, j, h1, h2, h3⟩
  have key : ∀ n, n ≤ 9 → ∃ m, m < 256 ∧ pc8 m = n ∧ ∀ j, j < 8 → bq m j = 1 → ∃ i, i < n ∧ w i = j := by
    intro n
    induction n with
    | zero => intro _; exact ⟨0, by omega, by decide, fun j hj h1 => by have : bq 0 j = 0 := by simp [bq]; 
                                                                        omega⟩
    | succ n ih =>
      intro hn
      obtain ⟨m, hm, hp, hb⟩ := ih (by omega)
      have hw := h n (by omega)
      have h0 : bq m (w n) = 0 := by
        rcases bq01 m (w n) with z | z
        · exact z
        · obtain ⟨i, hi, e⟩ := hb _ hw z
          exact absurd e (hne i n hi (by omega))
      refine ⟨bs m (w n), (k8_bsl m hm _ hw).1, by rw [pc8_bs m hm _ hw h0, hp], fun j hj h1 => ?_⟩
      rw [(k8_bsq m hm _ hw j hj).1] at h1
      by_cases e : j = w n
      · exact ⟨n, by omega, e.symm⟩
      · rw [if_neg e] at h1
        obtain ⟨i, hi, e2⟩ := hb j hj h1
        exact ⟨i, by omega, e2⟩
  obtain ⟨m, hm, hp, -⟩ := key 9 (by omega)
  have := pc8_le m
  omega
/-- without a ring the chains end within eight steps -/
theorem wk_end {s : Sx} (h : acy s) (hm : ∀ k, k < 8 → s 0 k ≤ 8) {c : Nat} (hc : c ≤ 8) : wk s 8 c = 0 := by
  refine Classical.byContradiction (fun hz => ?_)
  have nz : ∀ i, i ≤ 8 → wk s i c ≠ 0 := by
    intro i hi z
    have := wk_add s i (8 - i) c
    rw [show i + (8 - i) = 8 by omega, z, wk_z] at this
    exact hz this
  have le : ∀ i, i ≤ 8 → wk s i c ≤ 8 := by
    intro i
    induction i with
    | zero => intro _; exact hc
    | succ i ih =>
      intro hi
      have e := wk_add s i 1 c
      have hi' := ih (by omega)
      have hn := nz i (by omega)
      rw [e]
      simp only [wk, hn, if_false]
      exact hm _ (by omega)
  obtain ⟨i, j, hij, hj, e⟩ := pigeon (w := fun i => wk s i c - 1) (fun i hi => by have := le i hi; have := nz i hi; omega)
  have ni := nz i (by omega)
  have nj := nz j hj
  have li := le i (by omega)
  have e' : wk s i c = wk s j c := by omega
  have e2 := wk_add s i (j - i) c
  rw [show i + (j - i) = j by omega, ← e', show j - i = (j - i - 1) + 1 by omega] at e2
  simp only [wk, ni, if_false] at e2
  have := anc_no (h (wk s i c - 1) (by omega)) (i := j - i - 1) (by omega)
  rw [← e2] at this
  omega
theorem anc_more {s : Sx} (h : acy s) (hm : ∀ k, k < 8 → s 0 k ≤ 8) {u n c : Nat} (hc : c ≤ 8) (hn : 8 ≤ n) : anc s u n c = anc s u 8 c := by
  have : anc s u n c = true ↔ anc s u 8 c = true := by
    rw [anc_wk, anc_wk]
    constructor
    · rintro ⟨i, hi, e⟩
      rcases Nat.lt_or_ge i 8 with z | z
      · exact ⟨i, z, e⟩
      · have := wk_add s 8 (i - 8) c
        rw [show 8 + (i - 8) = i by omega, wk_end h hm hc, wk_z, e] at this
        omega
    · rintro ⟨i, hi, e⟩
      exact ⟨i, by omega, e⟩
  cases h1 : anc s u n c <;> cases h2 : anc s u 8 c <;> simp_all
