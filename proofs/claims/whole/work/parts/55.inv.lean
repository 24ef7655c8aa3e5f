/-! WHAT EVERY CALL KEEPS -/
def ct_I (X : ct_X) : Prop := ct_B X ∧ sp_C X.2.1 ∧ (∀ a ∈ X.2.2.1, sp_C a) ∧ ∀ j a, X.2.2.2 j = some a → sp_C a
theorem ct_I.rem {X : ct_X} {S : sp_S} (H : ct_I X) (B : sp_B S) (e : S.1 = X.2.1.1) (C : sp_C S) : ct_I (ct_rem X S) := by
  obtain ⟨⟨b1, b2, b3, b4, b5⟩, c1, c2, c3⟩ := H
  refine ⟨⟨b1, b2, B, fun a ha => ?_, fun j a ha => ?_⟩, C, fun a ha => ?_, c3⟩
  · have ha := List.mem_of_mem_take ha
    show sp_B a ∧ a.1 = S.1
    rw [e]
    rcases List.mem_cons.mp ha with z | z
    · subst z; exact ⟨b3, rfl⟩
    · exact b4 a z
  · show sp_B a ∧ a.1 = S.1
    rw [e]
    exact b5 j a ha
  · have ha := List.mem_of_mem_take ha
    rcases List.mem_cons.mp ha with z | z
    · subst z; exact c1
    · exact c2 a z
theorem sp_feed_C {S : sp_S} (C : sp_C S) (q l : Nat) : sp_C (sp_feed S q l) := by
  intro p hp ha
  have e1 : sp_fasted (sp_feed S q l) p = va_up (sp_fasted S) q 0 p := rfl
  have e2 : sp_ate (sp_feed S q l) p = va_up (sp_ate S) q 1 p := rfl
  rw [e1]
  rw [e2] at ha
  by_cases z : p = q
  · rw [z, up_e]
  · rw [up_n z] at ha ⊢
    exact C p hp ha
theorem sp_pass_C {S : sp_S} : sp_C (sp_pass S) := by
  intro p hp ha
  have e2 : sp_ate (sp_pass S) p = if p < sp_people S then 0 else sp_ate S p := rfl
  have hp : p < sp_people S := hp
  rw [e2, if_pos hp] at ha
  exact absurd rfl ha
theorem sp_hold_B {S : sp_S} (B : sp_B S) (l : Nat) {q : Nat} (hq : q ≤ 20) : sp_B (sp_u_hold S l q) := by
  obtain ⟨b_law, ⟨b_l1, b_lv⟩, ⟨b_b1, b_bd⟩, b_pp, b_lo, b_fa, b_at, b_nu, b_ho, b_ag⟩ := id B
  exact ⟨b_law, ⟨b_l1, b_lv⟩, ⟨b_b1, b_bd⟩, b_pp, b_lo, b_fa, b_at, b_nu, va_up_le b_ho hq, b_ag⟩
theorem sp_num_B {S : sp_S} (B : sp_B S) (l : Nat) {q : Nat} (hq : q ≤ 99) : sp_B (sp_u_num S l q) := by
  obtain ⟨b_law, ⟨b_l1, b_lv⟩, ⟨b_b1, b_bd⟩, b_pp, b_lo, b_fa, b_at, b_nu, b_ho, b_ag⟩ := id B
  exact ⟨b_law, ⟨b_l1, b_lv⟩, ⟨b_b1, b_bd⟩, b_pp, b_lo, b_fa, b_at, va_up_le b_nu hq, b_ho, b_ag⟩
section KI
variable {X : ct_X}
theorem ki_eat (H : ct_I X) (a1 a2 : Int32) : ct_I (ca_eat X a1 a2).2 := by
  unfold ca_eat
  split
  · split
    · split
      · exact H.rem (sp_feed_B H.1.2.2.1 _ _) rfl (sp_feed_C H.2.1 _ _)
      · exact H
    · exact H
  · exact H
theorem ki_give (H : ct_I X) (a1 a2 : Int32) : ct_I (ca_give X a1 a2).2 := by
  unfold ca_give
  split
  · split
    · rename_i h2
      split
      · exact H
      · refine H.rem (sp_hold_B H.1.2.2.1 _ ?_) rfl H.2.1
        rcases h2 with z | z
        · rw [z]; decide
        · unfold sp_in at z
          have z := of_decide_eq_true z
          have b := H.1.2.2.1.2.2.2.1
          obtain ⟨j, hj, rfl⟩ := vp_in_of (x := a2) (n := sp_people X.2.1) (vp_in_iff.mpr z) (by omega)
          rw [nI_clamp (by omega)]
          omega
    · exact H
  · exact H
theorem ki_cut (H : ct_I X) (a1 : Int32) : ct_I (ca_cut X a1).2 := by
  unfold ca_cut
  split
  · split
    · exact H
    · refine H.rem (sp_num_B H.1.2.2.1 _ ?_) rfl H.2.1
      have b := H.1.2.2.1.2.2.2.2.2.2.2.1 a1.toNatClampNeg
      unfold sp_cut
      split <;> omega
  · exact H
theorem ki_day (H : ct_I X) : ct_I (ca_day X).2 := H.rem (sp_pass_B H.1.2.2.1) rfl sp_pass_C
theorem ki_seed (H : ct_I X) (y : Int64) : ct_I (ca_seed X y).2 := H
theorem ki_undo (H : ct_I X) : ct_I (ca_undo X).2 := by
  obtain ⟨⟨b1, b2, b3, b4, b5⟩, c1, c2, c3⟩ := H
  unfold ca_undo
  split
  · exact ⟨⟨b1, b2, b3, b4, b5⟩, c1, c2, c3⟩
  · rename_i a A e
    have ha := b4 a (by rw [e]; exact List.mem_cons_self)
    refine ⟨⟨b1, b2, ha.1, fun z hz => ?_, fun j z hz => ?_⟩, c2 a (by rw [e]; exact List.mem_cons_self), fun z hz => c2 z (by rw [e]; exact List.mem_cons_of_mem _ hz), c3⟩
    · have := b4 z (by rw [e]; exact List.mem_cons_of_mem _ hz)
      exact ⟨this.1, this.2.trans ha.2.symm⟩
    · have := b5 j z hz
      exact ⟨this.1, this.2.trans ha.2.symm⟩
theorem ki_keep (H : ct_I X) (a1 : Int32) : ct_I (ca_keep X a1).2 := by
  unfold ca_keep
  split
  · obtain ⟨⟨b1, b2, b3, b4, b5⟩, c1, c2, c3⟩ := H
    refine ⟨⟨b1, b2, b3, b4, fun j a ha => ?_⟩, c1, c2, fun j a ha => ?_⟩
    · have ha : va_up X.2.2.2 a1.toNatClampNeg (some X.2.1) j = some a := ha
      by_cases z : j = a1.toNatClampNeg
      · rw [z, up_e] at ha
        cases ha
        exact ⟨b3, rfl⟩
      · rw [up_n z] at ha
        exact b5 j a ha
    · have ha : va_up X.2.2.2 a1.toNatClampNeg (some X.2.1) j = some a := ha
      by_cases z : j = a1.toNatClampNeg
      · rw [z, up_e] at ha
        cases ha
        exact c1
      · rw [up_n z] at ha
        exact c3 j a ha
  · exact H
theorem ki_again (H : ct_I X) (a1 : Int32) : ct_I (ca_again X a1).2 := by
  unfold ca_again
  split
  · split
    · exact H
    · rename_i S e
      obtain ⟨⟨b1, b2, b3, b4, b5⟩, c1, c2, c3⟩ := H
      have hS := b5 _ S e
      refine ⟨⟨b1, b2, hS.1, fun a ha => ?_, fun j a ha => ?_⟩, c3 _ S e, fun a ha => ?_, c3⟩
      · cases ha
      · have := b5 j a ha
        exact ⟨this.1, this.2.trans hS.2.symm⟩
      · cases ha
  · exact H
theorem ki_ss (H : ct_I X) (y : Int64) : ct_I (ct_rem X (sp_u_seed X.2.1 y)) := H.rem (sp_seed_B H.1.2.2.1 y) rfl H.2.1
theorem ki_sh (H : ct_I X) (y : Int64) (l : Nat) {t : Nat} (ht : t ≤ 20) : ct_I (ct_rem X (sp_u_hold (sp_u_seed X.2.1 y) l t)) := H.rem (sp_hold_B (sp_seed_B H.1.2.2.1 y) l ht) rfl H.2.1
theorem ki_pick {c d : Prop} [Decidable c] [Decidable d] {a b e : Int32 × ct_X} (h1 : c → ct_I a.2) (h2 : ¬ c → ct_I b.2) (h3 : ¬ c → ct_I e.2) : ct_I (if c then a else if d then b else e).2 := by
  split
  · rename_i h; exact h1 h
  · rename_i h
    split
    · exact h2 h
    · exact h3 h
theorem ki_night (H : ct_I X) : ct_I (ca_night X).2 := ki_pick (fun _ => H) (fun _ => ki_ss H (sn_y X.2.1)) (fun h0 => ki_sh H (sn_y X.2.1) (sn_l X.2.1) (by
  have h1 := (sn_t_ok h0).2
  have h2 := H.1.2.2.1.2.2.2.1
  omega))
theorem ki_text (H : ct_I X) {T : Nat × (Nat → Nat)} (h1 : T.1 ≤ 80) (h2 : ∀ j, T.2 j < 256) : ct_I (T, X.2) := ⟨⟨h1, h2, H.1.2.2⟩, H.2⟩
theorem ki_write (H : ct_I X) (a1 : Int32) (y : Int64) : ct_I (ca_write X a1 y).2 := by
  unfold ca_write
  split
  · split
    · rename_i h8
      exact ki_text H (by rw [ca_text_n]; exact h8) (ca_text_b y _ _ H.1.2.1)
    · exact H
  · exact H
theorem ki_wipe (H : ct_I X) : ct_I ((0, X.1.2), X.2) := ki_text H (Nat.zero_le _) H.1.2.1
theorem sp_addP_C {S : sp_S} (C : sp_C S) (d : Nat) : sp_C (sp_addP S d) := by
  intro p hp ha
  have hp : p < sp_people S + 1 := hp
  have e1 : sp_fasted (sp_addP S d) p = va_up (sp_fasted S) (sp_people S) d p := rfl
  have e2 : sp_ate (sp_addP S d) p = va_up (sp_ate S) (sp_people S) 0 p := rfl
  rw [e2] at ha
  rw [e1]
  by_cases z : p = sp_people S
  · rw [z, up_e] at ha; exact absurd rfl ha
  · rw [up_n z] at ha ⊢
    exact C p (by omega) ha
theorem sr_parts_C {T : Nat × (Nat → Nat)} : ∀ r pos S, sp_C S → sp_C (sr_parts T r pos S).2 := by
  intro r
  induction r with
  | zero => intro pos S C; exact C
  | succ r ih =>
    intro pos S C
    simp only [sr_parts]
    by_cases q : pos < T.1
    · rw [if_pos q]
      cases hp : sr_part T S pos with
      | inl z => exact C
      | inr z =>
        refine ih _ _ ?_
        unfold sr_part at hp
        split at hp
        · unfold sr_person at hp
          split at hp
          · split at hp
            · cases hp
            · cases hp
              exact sp_addP_C C _
          · cases hp
        · unfold sr_loaf at hp
          split at hp
          · cases hp
          · split at hp
            · cases hp
            · split at hp
              · cases hp
              · split at hp
                · cases hp
                · cases hp
                  exact C
    · rw [if_neg q]; exact C
theorem sr_all_C {T : Nat × (Nat → Nat)} {S : sp_S} (h : (sr_all T S).1 = none) : sp_C (sr_all T S).2 := by
  unfold sr_all at h ⊢
  cases hr : sr_rules T S with
  | inl q => rw [hr] at h; cases h
  | inr S' =>
    dsimp only
    refine sr_parts_C _ _ _ ?_
    unfold sr_rules at hr
    split at hr
    · split at hr
      · cases hr
      · split at hr
        · cases hr
        · split at hr
          · cases hr
          · cases hr
            intro p hp
            exact absurd hp (Nat.not_lt_zero _)
    · cases hr
theorem ki_told (H : ct_I X) {r : Int32} {X' : ct_X} (C : ca_told X r X') : ct_I X' := by
  obtain ⟨Sp, BS, C⟩ := C
  cases hf : (sr_all X.1 Sp).1 with
  | some q =>
    rw [hf] at C
    obtain ⟨-, rfl⟩ := C
    exact H
  | none =>
    rw [hf] at C
    obtain ⟨-, rfl, B⟩ := C
    exact ⟨⟨H.1.1, H.1.2.1, sp_seed_B B _, fun a ha => (by cases ha), fun j a ha => (by cases ha)⟩, sr_all_C hf, fun a ha => (by cases ha), fun j a ha => (by cases ha)⟩
end KI
