/-! AT BEST: counting the meals, and going through all that may be eaten, come to the same -/
def bt_sm : Nat → (Nat → Nat) → Nat
  | 0, _ => 0
  | m + 1, c => bt_sm m c + c m
theorem bt_le {m : Nat} {c c' : Nat → Nat} (h : ∀ k, k < m → c k ≤ c' k) : bt_sm m c ≤ bt_sm m c' := by
  induction m with
  | zero => exact Nat.le_refl _
  | succ m ih =>
    have h1 := ih (fun k hk => h k (by omega))
    have h2 := h m (by omega)
    simp only [bt_sm]
    omega
theorem bt_cg {m : Nat} {c c' : Nat → Nat} (h : ∀ k, k < m → c k = c' k) : bt_sm m c = bt_sm m c' := by
  induction m with
  | zero => rfl
  | succ m ih =>
    have h1 := ih (fun k hk => h k (by omega))
    have h2 := h m (by omega)
    simp only [bt_sm]
    omega
theorem bt_ad (m : Nat) (c c' : Nat → Nat) : bt_sm m (fun k => c k + c' k) = bt_sm m c + bt_sm m c' := by
  induction m with
  | zero => rfl
  | succ m ih => simp only [bt_sm]; omega
theorem bt_z {m : Nat} {c : Nat → Nat} (h : ∀ k, k < m → c k = 0) : bt_sm m c = 0 := by
  induction m with
  | zero => rfl
  | succ m ih =>
    have h1 := ih (fun k hk => h k (by omega))
    have h2 := h m (by omega)
    simp only [bt_sm]
    omega
theorem bt_fr (m : Nat) (c : Nat → Nat) : bt_sm (m + 1) c = c 0 + bt_sm m (fun k => c (k + 1)) := by
  induction m with
  | zero => simp only [bt_sm]; omega
  | succ m ih =>
    have e : bt_sm (m + 1 + 1) c = bt_sm (m + 1) c + c (m + 1) := rfl
    have e2 : bt_sm (m + 1) (fun k => c (k + 1)) = bt_sm m (fun k => c (k + 1)) + c (m + 1) := rfl
    omega
/-- how many of the days lm, lm - (L + 1), .. are a or later -/
def bt_c (L : Nat) (lm a : Int) : Nat := ((lm - a) / ((L : Int) + 1) + 1).toNat
theorem bt_c0 {L : Nat} {lm a : Int} (h : lm < a) : bt_c L lm a = 0 := by
  have h1 := Int.ediv_neg_of_neg_of_pos (a := lm - a) (b := (L : Int) + 1) (by omega) (by omega)
  unfold bt_c
  generalize (lm - a) / ((L : Int) + 1) = q at h1 ⊢
  omega
theorem bt_ca {L : Nat} {lm a b : Int} (h : a ≤ b) : bt_c L lm b ≤ bt_c L lm a := by
  have h1 := Int.ediv_le_ediv (a := lm - b) (b := lm - a) (c := (L : Int) + 1) (by omega) (by omega)
  unfold bt_c
  generalize (lm - a) / ((L : Int) + 1) = q at h1 ⊢
  generalize (lm - b) / ((L : Int) + 1) = q' at h1 ⊢
  omega
theorem bt_cs {L : Nat} {lm a : Int} (h : a ≤ lm) : bt_c L lm a = bt_c L lm (a + ((L : Int) + 1)) + 1 := by
  have h1 := Int.ediv_nonneg (a := lm - a) (b := (L : Int) + 1) (by omega) (by omega)
  have h2 := Int.add_mul_ediv_right (lm - a) (-1) (c := (L : Int) + 1) (by omega)
  have e : lm - a + -1 * ((L : Int) + 1) = lm - (a + ((L : Int) + 1)) := by omega
  rw [e] at h2
  unfold bt_c
  rw [h2]
  generalize (lm - a) / ((L : Int) + 1) = q at h1 ⊢
  omega
theorem bt_c3 (L : Nat) (lm a : Int) : bt_c L lm a ≤ bt_c L lm (a + ((L : Int) + 1)) + 1 := by
  by_cases h : a ≤ lm
  · rw [bt_cs h]; omega
  · rw [bt_c0 (by omega)]; omega
theorem bt_meals (L fr : Nat) : ∀ (r : Nat) (fed m : Int), m - fed ≤ r → sb_meals L fr r fed m = bt_c L m (if fr = 0 then fed + 1 else max (fed + 1) fr) := by
  intro r
  induction r with
  | zero =>
    intro fed m h
    rw [bt_c0 (by split <;> omega)]
    rfl
  | succ r ih =>
    intro fed m h
    simp only [sb_meals]
    by_cases q : m ≤ fed
    · rw [if_pos q, bt_c0 (by split <;> omega)]
    · rw [if_neg q, ih fed _ (by omega)]
      have key : ∀ a : Int, bt_c L (m - ((L : Int) + 1)) a = bt_c L m (a + ((L : Int) + 1)) := fun a => by
        unfold bt_c
        rw [show m - ((L : Int) + 1) - a = m - (a + ((L : Int) + 1)) by omega]
      rw [key]
      generalize ha : (if fr = 0 then fed + 1 else max (fed + 1) (fr : Int)) = a
      by_cases c : a ≤ m
      · rw [bt_cs c, if_neg]
        · omega
        · split at ha
          · subst fr; split <;> omega
          · split <;> omega
      · have hz : ¬ fr = 0 := fun z => by rw [if_pos z] at ha; omega
        rw [if_neg hz] at ha
        rw [if_pos (by split <;> omega), bt_c0 (by omega), bt_c0 (by omega)]
def bt_t (k : Nat) : Nat := if k = 0 then 1 else if k = 1 then 10 else 100
/-- a state of the search: how many loaves are gone, what each has fasted -/
def bt_g (j : Nat) : Nat := j / 1000
def bt_f (j k : Nat) : Nat := j % 1000 / bt_t k % 10
def bt_n (j : Nat) (e i : Nat → Bool) (k : Nat) : Nat := if e k = true then 0 else if i k = true then bt_f j k else bt_f j k + 1
def bt_1 (b : Bool) : Nat := if b = true then 1 else 0
def bt_st (n L m : Nat) (ix : Nat → Nat) (d : Nat) (i : Nat → Bool) (j : Nat) (e : Nat → Bool) (j' : Nat) : Prop := (∀ k, k < m → e k = true → i k = false) ∧ max (bt_g j) (ix d) + bt_sm m (fun k => bt_1 (e k)) ≤ n ∧ (∀ k, k < m → bt_n j e i k ≤ L) ∧ j' = 1000 * (max (bt_g j) (ix d) + bt_sm m (fun k => bt_1 (e k))) + bt_sm m (fun k => bt_n j e i k * bt_t k)
def bt_i (i0 : Nat → Bool) (d k : Nat) : Bool := decide (d = 0) && i0 k
def bt_F (n L m : Nat) (ix : Nat → Nat) (i0 : Nat → Bool) : Nat → Nat → Nat → Prop
  | 0, _, _ => True
  | r + 1, d, j => ∃ e j', bt_st n L m ix d (bt_i i0 d) j e j' ∧ bt_F n L m ix i0 r (d + 1) j'
def bt_A (d : Nat) (i : Nat → Bool) (j k : Nat) : Int := if i k = true then (d : Int) + 1 else (d : Int) - bt_f j k
def bt_ok (n L m : Nat) (ix : Nat → Nat) (lm : Int) (d j : Nat) (i : Nat → Bool) : Prop := bt_sm m (fun k => bt_c L lm (bt_A d i j k)) ≤ n - max (bt_g j) (ix d) ∧ ∀ fr : Nat, d < fr → bt_sm m (fun k => bt_c L lm (max (bt_A d i j k) fr)) ≤ n - max (bt_g j) (ix fr)
theorem bt_dec {m L G : Nat} {x : Nat → Nat} (hm : m ≤ 3) (hL : L ≤ 9) (hx : ∀ k, k < m → x k ≤ L) : bt_sm m (fun k => x k * bt_t k) < 1000 ∧ bt_g (1000 * G + bt_sm m (fun k => x k * bt_t k)) = G ∧ ∀ k, k < m → bt_f (1000 * G + bt_sm m (fun k => x k * bt_t k)) k = x k := by
  have t0 : bt_t 0 = 1 := rfl
  have t1 : bt_t 1 = 10 := rfl
  have t2 : bt_t 2 = 100 := rfl
  have hc : m = 0 ∨ m = 1 ∨ m = 2 ∨ m = 3 := by omega
  rcases hc with rfl | rfl | rfl | rfl
  · have es : bt_sm 0 (fun k => x k * bt_t k) = 0 := rfl
    rw [es]
    exact ⟨by omega, by unfold bt_g; omega, fun k hk => by omega⟩
  · have es : bt_sm 1 (fun k => x k * bt_t k) = x 0 := by simp [bt_sm, bt_t]
    have h0 := hx 0 (by omega)
    rw [es]
    refine ⟨by omega, by unfold bt_g; omega, fun k hk => ?_⟩
    have : k = 0 := by omega
    subst this
    unfold bt_f
    rw [t0]
    omega
  · have es : bt_sm 2 (fun k => x k * bt_t k) = x 0 + x 1 * 10 := by simp [bt_sm, bt_t]
    have h0 := hx 0 (by omega)
    have h1 := hx 1 (by omega)
    rw [es]
    refine ⟨by omega, by unfold bt_g; omega, fun k hk => ?_⟩
    have : k = 0 ∨ k = 1 := by omega
    rcases this with rfl | rfl
    · unfold bt_f
      rw [t0]
      omega
    · unfold bt_f
      rw [t1]
      omega
  · have es : bt_sm 3 (fun k => x k * bt_t k) = x 0 + x 1 * 10 + x 2 * 100 := by simp [bt_sm, bt_t]
    have h0 := hx 0 (by omega)
    have h1 := hx 1 (by omega)
    have h2 := hx 2 (by omega)
    rw [es]
    refine ⟨by omega, by unfold bt_g; omega, fun k hk => ?_⟩
    have : k = 0 ∨ k = 1 ∨ k = 2 := by omega
    rcases this with rfl | rfl | rfl
    · unfold bt_f
      rw [t0]
      omega
    · unfold bt_f
      rw [t1]
      omega
    · unfold bt_f
      rw [t2]
      omega
theorem bt_i1 (i0 : Nat → Bool) (d k : Nat) : bt_i i0 (d + 1) k = false := by
  unfold bt_i
  rw [decide_eq_false (by omega)]
  rfl
theorem bt_main {n L m : Nat} {ix : Nat → Nat} {i0 : Nat → Bool} (hm : m ≤ 3) (hL : L ≤ 9) (hix : ∀ a b, a ≤ b → ix a ≤ ix b) (hn : ∀ a, ix a ≤ n) : ∀ r d j, bt_g j ≤ n → (∀ k, k < m → bt_f j k ≤ L) → (∀ k, k < m → bt_i i0 d k = true → bt_f j k = 0) → (bt_F n L m ix i0 r d j ↔ bt_ok n L m ix ((d : Int) + (r : Int) - L - 1) d j (bt_i i0 d)) := by
  intro r
  induction r with
  | zero =>
    intro d j hg hf hi
    refine ⟨fun _ => ?_, fun _ => trivial⟩
    have hA : ∀ k, k < m → (d : Int) - L ≤ bt_A d (bt_i i0 d) j k := fun k hk => by
      have := hf k hk
      unfold bt_A
      split <;> omega
    refine ⟨?_, fun fr hfr => ?_⟩
    · rw [bt_z (fun k hk => bt_c0 (by have := hA k hk; omega))]
      omega
    · rw [bt_z (fun k hk => bt_c0 (by have := hA k hk; omega))]
      omega
  | succ r ih =>
    intro d j hg hf hi
    generalize hlm : (d : Int) + ((r + 1 : Nat) : Int) - L - 1 = lm
    have hlm' : ((d + 1 : Nat) : Int) + (r : Int) - L - 1 = lm := by omega
    have hA : ∀ k, k < m → (d : Int) - L ≤ bt_A d (bt_i i0 d) j k ∧ bt_A d (bt_i i0 d) j k ≤ d + 1 := fun k hk => by
      have := hf k hk
      unfold bt_A
      split <;> omega
    have hA' : ∀ e j', (∀ k, k < m → e k = true → bt_i i0 d k = false) → (∀ k, k < m → bt_f j' k = bt_n j e (bt_i i0 d) k) → ∀ k, k < m → bt_A (d + 1) (bt_i i0 (d + 1)) j' k = if e k = true then (d : Int) + 1 else bt_A d (bt_i i0 d) j k := fun e j' he hj k hk => by
      have h1 := hj k hk
      have h2 := hi k hk
      unfold bt_A
      rw [bt_i1, if_neg (show ¬ false = true by decide), h1]
      unfold bt_n
      by_cases q : e k = true
      · rw [if_pos q, if_pos q]; omega
      · rw [if_neg q, if_neg q]
        by_cases z : bt_i i0 d k = true
        · rw [if_pos z, if_pos z, h2 z]; omega
        · rw [if_neg z, if_neg z]; omega
    have d1 := hix d (d + 1) (by omega)
    have dn := hn d
    have dn1 := hn (d + 1)
    constructor
    · rintro ⟨e, j', ⟨v1, v2, v3, v4⟩, hF⟩
      obtain ⟨-, D1, D2⟩ := bt_dec (G := max (bt_g j) (ix d) + bt_sm m (fun k => bt_1 (e k))) hm hL v3
      rw [← v4] at D1 D2
      have hF' := (ih (d + 1) j' (by rw [D1]; exact v2) (fun k hk => by rw [D2 k hk]; exact v3 k hk) (fun k hk z => by rw [bt_i1] at z; cases z)).mp hF
      rw [hlm'] at hF'
      obtain ⟨o1, o2⟩ := hF'
      rw [D1] at o1
      have hX := hA' e j' v1 D2
      generalize hs : bt_sm m (fun k => bt_1 (e k)) = s at v2 D1 o1
      refine ⟨?_, fun fr hfr => ?_⟩
      · have h1 : bt_sm m (fun k => bt_c L lm (bt_A d (bt_i i0 d) j k)) ≤ bt_sm m (fun k => bt_c L lm (bt_A (d + 1) (bt_i i0 (d + 1)) j' k) + bt_1 (e k)) := by
          refine bt_le (fun k hk => ?_)
          have a1 := hA k hk
          have a2 := bt_c3 L lm (bt_A d (bt_i i0 d) j k)
          rw [hX k hk]
          unfold bt_1
          by_cases q : e k = true
          · rw [if_pos q, if_pos q]
            have a3 := bt_ca (L := L) (lm := lm) (a := (d : Int) + 1) (b := bt_A d (bt_i i0 d) j k + ((L : Int) + 1)) (by omega)
            omega
          · rw [if_neg q, if_neg q]
            exact Nat.le_refl _
        rw [bt_ad m, hs] at h1
        omega
      · have h1 : bt_sm m (fun k => bt_c L lm (max (bt_A d (bt_i i0 d) j k) fr)) ≤ bt_sm m (fun k => bt_c L lm (max (bt_A (d + 1) (bt_i i0 (d + 1)) j' k) fr)) := by
          refine bt_le (fun k hk => bt_ca ?_)
          rw [hX k hk]
          have a1 := hA k hk
          split <;> omega
        have gi := hix (d + 1) fr hfr
        by_cases q : fr = d + 1
        · subst q
          have h2 : bt_sm m (fun k => bt_c L lm (max (bt_A (d + 1) (bt_i i0 (d + 1)) j' k) ((d + 1 : Nat) : Int))) ≤ bt_sm m (fun k => bt_c L lm (bt_A (d + 1) (bt_i i0 (d + 1)) j' k)) := bt_le (fun k hk => bt_ca (by omega))
          omega
        · have h2 := o2 fr (by omega)
          rw [D1] at h2
          omega
    · rintro ⟨o1, o2⟩
      let e : Nat → Bool := fun k => !decide (bt_c L lm (bt_A d (bt_i i0 d) j k) = bt_c L lm (max (bt_A d (bt_i i0 d) j k) ((d + 1 : Nat) : Int)))
      have he : ∀ k, e k = true ↔ ¬ bt_c L lm (bt_A d (bt_i i0 d) j k) = bt_c L lm (max (bt_A d (bt_i i0 d) j k) ((d + 1 : Nat) : Int)) := fun k => by
        show (!decide _) = true ↔ _
        rw [Bool.not_eq_true', decide_eq_false_iff_not]
      have hlt : ∀ k, k < m → e k = true → bt_A d (bt_i i0 d) j k < (d : Int) + 1 := fun k hk z => by
        refine Classical.byContradiction (fun y => (he k).mp z ?_)
        rw [show max (bt_A d (bt_i i0 d) j k) ((d + 1 : Nat) : Int) = bt_A d (bt_i i0 d) j k by omega]
      have v1 : ∀ k, k < m → e k = true → bt_i i0 d k = false := fun k hk z => by
        cases y : bt_i i0 d k with
        | false => rfl
        | true =>
          have := hlt k hk z
          unfold bt_A at this
          rw [if_pos y] at this
          omega
      have hone : ∀ k, k < m → bt_c L lm (bt_A d (bt_i i0 d) j k) = bt_c L lm (max (bt_A d (bt_i i0 d) j k) ((d + 1 : Nat) : Int)) + bt_1 (e k) := fun k hk => by
        have a1 := hA k hk
        have a2 := bt_c3 L lm (bt_A d (bt_i i0 d) j k)
        have a3 := bt_ca (L := L) (lm := lm) (a := bt_A d (bt_i i0 d) j k) (b := max (bt_A d (bt_i i0 d) j k) ((d + 1 : Nat) : Int)) (by omega)
        have a4 := bt_ca (L := L) (lm := lm) (a := max (bt_A d (bt_i i0 d) j k) ((d + 1 : Nat) : Int)) (b := bt_A d (bt_i i0 d) j k + ((L : Int) + 1)) (by omega)
        unfold bt_1
        by_cases q : e k = true
        · rw [if_pos q]
          have := (he k).mp q
          omega
        · rw [if_neg q]
          have := Classical.byContradiction (fun y => q ((he k).mpr y))
          omega
      have hsum : bt_sm m (fun k => bt_c L lm (bt_A d (bt_i i0 d) j k)) = bt_sm m (fun k => bt_c L lm (max (bt_A d (bt_i i0 d) j k) ((d + 1 : Nat) : Int))) + bt_sm m (fun k => bt_1 (e k)) := by
        rw [bt_cg hone]
        exact bt_ad m _ _
      have v3 : ∀ k, k < m → bt_n j e (bt_i i0 d) k ≤ L := fun k hk => by
        have a0 := hf k hk
        unfold bt_n
        by_cases q : e k = true
        · rw [if_pos q]; omega
        · rw [if_neg q]
          by_cases z : bt_i i0 d k = true
          · rw [if_pos z]; exact a0
          · rw [if_neg z]
            refine Classical.byContradiction (fun y => q ((he k).mpr ?_))
            have eA : bt_A d (bt_i i0 d) j k = (d : Int) - L := by
              unfold bt_A
              rw [if_neg z]
              omega
            have e2 : max (bt_A d (bt_i i0 d) j k) ((d + 1 : Nat) : Int) = (d : Int) - L + ((L : Int) + 1) := by rw [eA]; omega
            rw [e2, eA, bt_cs (by omega)]
            omega
      have s1 := o2 (d + 1) (by omega)
      have v2 : max (bt_g j) (ix d) + bt_sm m (fun k => bt_1 (e k)) ≤ n := by omega
      obtain ⟨-, D1, D2⟩ := bt_dec (G := max (bt_g j) (ix d) + bt_sm m (fun k => bt_1 (e k))) hm hL v3
      refine ⟨e, _, ⟨v1, v2, v3, rfl⟩, ?_⟩
      refine (ih (d + 1) _ (by rw [D1]; exact v2) (fun k hk => by rw [D2 k hk]; exact v3 k hk) (fun k hk z => by rw [bt_i1] at z; cases z)).mpr ?_
      have hX := hA' e _ v1 D2
      rw [hlm']
      generalize 1000 * (max (bt_g j) (ix d) + bt_sm m (fun k => bt_1 (e k))) + bt_sm m (fun k => bt_n j e (bt_i i0 d) k * bt_t k) = j' at D1 D2 hX ⊢
      refine ⟨?_, fun fr hfr => ?_⟩
      · have h1 : bt_sm m (fun k => bt_c L lm (bt_A (d + 1) (bt_i i0 (d + 1)) j' k)) = bt_sm m (fun k => bt_c L lm (max (bt_A d (bt_i i0 d) j k) ((d + 1 : Nat) : Int))) := by
          refine bt_cg (fun k hk => ?_)
          rw [hX k hk]
          by_cases q : e k = true
          · have := hlt k hk q
            rw [if_pos q, show max (bt_A d (bt_i i0 d) j k) ((d + 1 : Nat) : Int) = (d : Int) + 1 by omega]
          · rw [if_neg q]
            exact Classical.byContradiction (fun y => q ((he k).mpr y))
        rw [h1, D1]
        omega
      · have h1 : bt_sm m (fun k => bt_c L lm (max (bt_A (d + 1) (bt_i i0 (d + 1)) j' k) fr)) = bt_sm m (fun k => bt_c L lm (max (bt_A d (bt_i i0 d) j k) fr)) := by
          refine bt_cg (fun k hk => ?_)
          rw [hX k hk]
          by_cases q : e k = true
          · have := hlt k hk q
            rw [if_pos q, show max (bt_A d (bt_i i0 d) j k) (fr : Int) = max ((d : Int) + 1) fr by omega]
          · rw [if_neg q]
        have h2 : bt_sm m (fun k => bt_c L lm (max (bt_A d (bt_i i0 d) j k) fr)) ≤ bt_sm m (fun k => bt_c L lm (max (bt_A d (bt_i i0 d) j k) ((d + 1 : Nat) : Int))) := bt_le (fun k hk => bt_ca (by omega))
        have h3 := o2 fr (by omega)
        rw [h1, D1]
        omega
