/-! AT BEST: the counting of a siege is the search's -/
def bt_p (S : sp_S) (k : Nat) : Nat := (sp_at (sp_al S) (sp_people S) 0 k).getD 0
theorem bt_fold (f : Nat → Bool) (c : Nat → Nat) : ∀ r i a, sp_fold (fun p a => a + (if f p = true then c p else 0)) r i a = a + bt_sm (sp_fold (sp_gc f) r i 0) (fun k => c ((sp_at f r i k).getD 0)) := by
  intro r
  induction r with
  | zero => intro i a; rfl
  | succ r ih =>
    intro i a
    have e1 : sp_fold (fun p a => a + (if f p = true then c p else 0)) (r + 1) i a = sp_fold (fun p a => a + (if f p = true then c p else 0)) r (i + 1) (a + (if f i = true then c i else 0)) := rfl
    have e2 : sp_fold (sp_gc f) (r + 1) i 0 = sp_fold (sp_gc f) r (i + 1) (sp_gc f i 0) := rfl
    rw [e1, e2, ih, sp_gc_add f r (i + 1) (sp_gc f i 0)]
    by_cases q : f i = true
    · have e3 : sp_gc f i 0 = 1 := by unfold sp_gc; rw [if_pos q]
      have e4 : ∀ k, sp_at f (r + 1) i (k + 1) = sp_at f r (i + 1) k := fun k => by simp only [sp_at, if_pos q]
      have e5 : sp_at f (r + 1) i 0 = some i := by simp only [sp_at, if_pos q]
      rw [e3, if_pos q, Nat.add_comm 1, bt_fr, e5]
      simp only [e4, Option.getD_some]
      omega
    · have e3 : sp_gc f i 0 = 0 := by unfold sp_gc; rw [if_neg q]
      have e4 : ∀ k, sp_at f (r + 1) i k = sp_at f r (i + 1) k := fun k => by simp only [sp_at, if_neg q]
      rw [e3, if_neg q, Nat.zero_add]
      simp only [e4]
      omega
theorem sp_ct_mono {f g : Nat → Bool} (h : ∀ l, f l = true → g l = true) : ∀ r i a b, a ≤ b → sp_fold (sp_gc f) r i a ≤ sp_fold (sp_gc g) r i b := by
  intro r
  induction r with
  | zero => intro i a b e; exact e
  | succ r ih =>
    intro i a b e
    show sp_fold (sp_gc f) r (i + 1) (sp_gc f i a) ≤ sp_fold (sp_gc g) r (i + 1) (sp_gc g i b)
    refine ih (i + 1) _ _ ?_
    unfold sp_gc
    by_cases q : f i = true
    · rw [if_pos q, if_pos (h i q)]; omega
    · rw [if_neg q]; split <;> omega
theorem sb_good_mono (S : sp_S) {a b : Nat} (h : a ≤ b) : sb_good S b ≤ sb_good S a := by
  refine sp_ct_mono (fun l q => ?_) _ _ _ _ (Nat.le_refl _)
  simp only [sb_f, Bool.and_eq_true, decide_eq_true_eq] at q ⊢
  exact ⟨q.1, by omega⟩
theorem bt_pal {S : sp_S} {k : Nat} (hk : k < sn_a S) : sp_at (sp_al S) (sp_people S) 0 k = some (bt_p S k) ∧ bt_p S k < sp_people S ∧ sp_al S (bt_p S k) = true := by
  obtain ⟨j, e, -, h2, h3⟩ := sp_at_some (sp_al S) (sp_people S) 0 k hk
  have : bt_p S k = j := by unfold bt_p; rw [e]; rfl
  rw [this]
  exact ⟨e, by omega, h3⟩
/-- who ate today has fasted no day -/
def sp_C (S : sp_S) : Prop := ∀ p, p < sp_people S → ¬ sp_ate S p = 0 → sp_fasted S p = 0
def bt_j (S : sp_S) : Nat := bt_sm (sn_a S) (fun k => sp_fasted S (bt_p S k) * bt_t k)
def bt_i0 (S : sp_S) (k : Nat) : Bool := !decide (sp_ate S (bt_p S k) = 0)
def bt_x (S : sp_S) (fr : Nat) : Nat := sb_good S 0 - sb_good S fr
theorem sb_can_iff (S : sp_S) (lm : Int) : ∀ r fr, sb_can S lm r fr = true ↔ ∀ f, fr ≤ f → f < fr + r → sb_due S lm f ≤ sb_good S f := by
  intro r
  induction r with
  | zero => intro fr; exact ⟨fun _ f a b => by omega, fun _ => rfl⟩
  | succ r ih =>
    intro fr
    simp only [sb_can, Bool.and_eq_true, decide_eq_true_eq]
    rw [ih (fr + 1)]
    constructor
    · rintro ⟨a, b⟩ f c d
      by_cases q : f = fr
      · rw [q]; exact a
      · exact b f (by omega) (by omega)
    · intro a
      exact ⟨a fr (by omega) (by omega), fun f c d => a f (by omega) (by omega)⟩
section BS
variable {S : sp_S}
theorem bt_jd (hm : sn_a S ≤ 3) (hL : sp_lives S ≤ 9) : bt_j S < 1000 ∧ bt_g (bt_j S) = 0 ∧ ∀ k, k < sn_a S → bt_f (bt_j S) k = sp_fasted S (bt_p S k) := by
  have h := bt_dec (m := sn_a S) (L := sp_lives S) (G := 0) (x := fun k => sp_fasted S (bt_p S k)) hm hL (fun k hk => by
    have := (bt_pal hk).2.2
    unfold sp_al at this
    exact of_decide_eq_true this)
  rw [Nat.mul_zero, Nat.zero_add] at h
  exact h
theorem sb_due_sm (lm : Int) (fr : Nat) (h : lm ≤ 250) (hf : ∀ p, sp_fasted S p ≤ 10) : sb_due S lm fr = bt_sm (sn_a S) (fun k => bt_c (sp_lives S) lm (if fr = 0 then sb_fed S (bt_p S k) + 1 else max (sb_fed S (bt_p S k) + 1) fr)) := by
  have e := bt_fold (sp_al S) (fun p => sb_meals (sp_lives S) fr 300 (sb_fed S p) lm) (sp_people S) 0 0
  refine e.trans ?_
  rw [Nat.zero_add]
  refine bt_cg (fun k hk => ?_)
  have h1 := hf (bt_p S k)
  refine bt_meals (sp_lives S) fr 300 (sb_fed S (bt_p S k)) lm ?_
  unfold sb_fed
  split <;> omega
theorem bt_Afed (B : sp_B S) (hm : sn_a S ≤ 3) {k : Nat} (hk : k < sn_a S) : bt_A 0 (bt_i (bt_i0 S) 0) (bt_j S) k = sb_fed S (bt_p S k) + 1 := by
  have hj := (bt_jd hm B.2.1.2).2.2 k hk
  unfold bt_A sb_fed bt_i bt_i0
  rw [hj]
  by_cases q : sp_ate S (bt_p S k) = 0
  · rw [if_pos q, decide_eq_true q, if_neg (by decide)]; omega
  · rw [if_neg q, decide_eq_false q, if_pos (by decide)]; omega
theorem bt_S (B : sp_B S) (C : sp_C S) (hm : sn_a S ≤ 3) {D : Nat} (hD : D ≤ 201) : bt_F (sb_good S 0) (sp_lives S) (sn_a S) (bt_x S) (bt_i0 S) D 0 (bt_j S) ↔ sb_ok S D = true := by
  obtain ⟨b_law, ⟨b_l1, b_lv⟩, ⟨b_b1, b_bd⟩, b_pp, b_lo, b_fa, b_at, b_nu, b_ho, b_ag⟩ := id B
  obtain ⟨j1, j2, j3⟩ := bt_jd hm b_lv
  have g0 : ∀ f, sb_good S f ≤ sb_good S 0 := fun f => sb_good_mono S (Nat.zero_le _)
  refine (bt_main hm b_lv (fun a b h => by have := sb_good_mono S h; unfold bt_x; omega) (fun a => by unfold bt_x; omega) D 0 (bt_j S) (by omega) (fun k hk => by
    rw [j3 k hk]
    have := (bt_pal hk).2.2
    unfold sp_al at this
    exact of_decide_eq_true this) (fun k hk z => by
    rw [j3 k hk]
    refine C _ (bt_pal hk).2.1 (fun y => ?_)
    unfold bt_i bt_i0 at z
    rw [decide_eq_true y] at z
    exact absurd z (by decide))).trans ?_
  have elm : ((0 : Nat) : Int) + (D : Int) - (sp_lives S : Int) - 1 = (D : Int) - sp_lives S - 1 := by omega
  unfold sb_ok
  rw [sb_can_iff, elm]
  generalize hlm : (D : Int) - sp_lives S - 1 = lm
  have hl : lm ≤ 250 := by omega
  have x0 : bt_x S 0 = 0 := Nat.sub_self _
  have e0 : bt_sm (sn_a S) (fun k => bt_c (sp_lives S) lm (bt_A 0 (bt_i (bt_i0 S) 0) (bt_j S) k)) = sb_due S lm 0 := by
    rw [sb_due_sm lm 0 hl b_fa]
    exact bt_cg (fun k hk => by rw [if_pos rfl, bt_Afed B hm hk])
  have ef : ∀ fr : Nat, 0 < fr → bt_sm (sn_a S) (fun k => bt_c (sp_lives S) lm (max (bt_A 0 (bt_i (bt_i0 S) 0) (bt_j S) k) fr)) = sb_due S lm fr := fun fr h => by
    rw [sb_due_sm lm fr hl b_fa]
    exact bt_cg (fun k hk => by rw [if_neg (by omega), bt_Afed B hm hk])
  constructor
  · rintro ⟨a, b⟩ f c d
    by_cases q : f = 0
    · subst q
      rw [e0, j2, x0] at a
      omega
    · have h1 := b f (by omega)
      rw [ef f (by omega), j2] at h1
      have := g0 f
      unfold bt_x at h1
      omega
  · intro a
    refine ⟨?_, fun fr h => ?_⟩
    · have h1 := a 0 (by omega) (by omega)
      rw [e0, j2, x0]
      omega
    · rw [j2]
      by_cases q : fr < lm.toNat + 1
      · have h1 := a fr (by omega) (by omega)
        have := g0 fr
        rw [ef fr h]
        unfold bt_x
        omega
      · rw [bt_z (fun k hk => bt_c0 (by omega))]
        omega
theorem sb_no (B : sp_B S) (h0 : 0 < sn_a S) : sb_ok S 201 = false := by
  obtain ⟨b_law, ⟨b_l1, b_lv⟩, ⟨b_b1, b_bd⟩, b_pp, b_lo, b_fa, b_at, b_nu, b_ho, b_ag⟩ := id B
  cases hq : sb_ok S 201 with
  | false => rfl
  | true =>
    exfalso
    unfold sb_ok at hq
    rw [sb_can_iff] at hq
    generalize hlm : ((201 : Nat) : Int) - sp_lives S - 1 = lm at hq
    have h1 := hq lm.toNat (by omega) (by omega)
    have h2 : sb_good S lm.toNat = 0 := by
      unfold sb_good
      refine (sp_ct0 _ _ _).mpr (fun k _ _ => ?_)
      unfold sb_f
      rw [decide_eq_false (by omega), Bool.and_false]
    rw [sb_due_sm lm _ (by omega) b_fa, h2] at h1
    simp only [if_neg (show ¬ lm.toNat = 0 by omega)] at h1
    obtain ⟨m, hm⟩ : ∃ m, sn_a S = m + 1 := ⟨sn_a S - 1, by omega⟩
    rw [hm, bt_fr] at h1
    have hfed : sb_fed S (bt_p S 0) ≤ 0 := by unfold sb_fed; split <;> omega
    have h3 : bt_c (sp_lives S) lm (max (sb_fed S (bt_p S 0) + 1) (lm.toNat : Int)) = 0 := by omega
    rw [bt_cs (by omega)] at h3
    omega
end BS
