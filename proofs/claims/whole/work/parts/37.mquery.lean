/-! WHAT THE MODEL ANSWERS: the simple calls -/
theorem sp_any_f {f : Nat → Bool} (h : ∀ i, f i = false) : ∀ r i, sp_any f r i = false := by
  intro r
  induction r with
  | zero => intro i; rfl
  | succ r ih => intro i; show (f i || sp_any f r (i + 1)) = false; rw [h, ih]; rfl
theorem sp_bz {h : bn_H} (b : Bool) : (if sp_b b = 0 ∨ sp_b b = 1 then some (some (Value.int (sp_b b)), h) else (none : bn_R)) = some (some (Value.int (sp_b b)), h) := by cases b <;> rfl
section MM
variable {h : bn_H} {S : sp_S}
theorem mq_mayEat (H : mg h S) (B : sp_B S) {q l : Nat} (hq : q < sp_people S) (hl : l < sp_loaves S) : bn_ev 95 0 [some (.ref 222), some (.int (nI q)), some (.int (nI l)), none, none, none] [] h = some (some (.int (sp_b (sp_may S q l))), h) := by
  obtain ⟨b_law, ⟨b_l1, b_lv⟩, ⟨b_b1, b_bd⟩, b_pp, b_lo, b_fa, b_at, b_nu, b_ho, b_ag⟩ := id B
  have h1 := b_at q
  have h2 := b_ho l
  have hnl := b_nu l
  have key : ∀ r i b o, i + r = sp_loaves S → bn_ev 95 51 [some (.ref 222), some (.int (nI q)), some (.int (nI l)), some (.int (sp_b b)), some (.int (nI i)), o] [] h = some (some (.int (sp_b (b && !sp_any (sp_fb S q (sp_num S l)) r i))), h) := by
    intro r
    induction r with
    | zero =>
      intro i b o hi
      rw [bs_X3_mayEat_51, mg_loaves H, if_pos (nI_le (by omega) (by omega)), sp_bz]
      cases b <;> rfl
    | succ r ih =>
      intro i b o hi
      have hil : i < sp_loaves S := by omega
      have h3 := b_ho i
      have h4 := b_nu i
      have ev := bs_X3_mayEat_51 222 (nI q) (nI l) (sp_b b) (nI i) o h
      rw [mg_loaves H, if_neg (nI_ge hil (by omega)), mg_law H, show (2 : Int32) = nI 2 from rfl, sp_ifle (by omega) (by omega)] at ev
      by_cases l2 : 2 ≤ sp_law S
      · rw [if_pos l2, sp_bz] at ev
        have : ∀ i, sp_fb S q (sp_num S l) i = false := fun i => by
          have a0 : ¬ sp_law S = 0 := by omega
          have a1 : ¬ sp_law S = 1 := by omega
          simp [sp_fb, a0, a1]
        rw [sp_any_f this, ev]
        cases b <;> rfl
      · rw [if_neg l2, mg_law H, sp_if0 (by omega), mg_C H, mq_holder H B hil] at ev
        simp only [bn_gd, bn_cI, if_true] at ev
        -- what counts
        have cnt : ∀ (c : Bool) (o : Option Value), bn_ev 95 109 [some (.ref 222), some (.int (nI q)), some (.int (nI l)), some (.int (sp_b b)), some (.int (nI i)), o] [.int (sp_b c)] h = some (some (.int (sp_b (b && (!(c && (decide (sp_num S i < sp_num S l) && !sp_bd S i)) && !sp_any (sp_fb S q (sp_num S l)) r (i + 1))))), h) := by
          intro c o
          have i0 := fun o => ih (i + 1) false o (by omega)
          have i1 := fun o => ih (i + 1) true o (by omega)
          simp only [sp_b1, sp_b0, Bool.false_and, Bool.true_and] at i0 i1
          rw [bs_X3_mayEat_109, ← nI_succ]
          simp only [sp_b_eq0, mg_C H, mq_isBad H B hil, mq_number H B hil, mq_number H B hl, bn_gd, bn_cI, if_true, i0, i1]
          rw [sp_iflt (by omega) (by omega)]
          cases b with
          | false => rfl
          | true =>
            cases c with
            | false => simp
            | true =>
              cases hb : sp_bd S i with
              | true => simp
              | false =>
                by_cases e : sp_num S i < sp_num S l
                · simp [e, sp_b]
                · simp [e]
        have fin : ∀ c : Bool, sp_fb S q (sp_num S l) i = (c && (decide (sp_num S i < sp_num S l) && !sp_bd S i)) → (b && (!(c && (decide (sp_num S i < sp_num S l) && !sp_bd S i)) && !sp_any (sp_fb S q (sp_num S l)) r (i + 1))) = (b && !sp_any (sp_fb S q (sp_num S l)) (r + 1) i) := by
          intro c hc
          show _ = (b && !(sp_fb S q (sp_num S l) i || sp_any (sp_fb S q (sp_num S l)) r (i + 1)))
          rw [hc, Bool.not_or]
        rw [ev]
        by_cases l0 : sp_law S = 0
        · rw [if_pos l0, sp_ifeq (by omega) (by omega)]
          have e1 : (if sp_hold S i = q then (1 : Int32) else 0) = sp_b (decide (sp_hold S i = q)) := by
            by_cases z : sp_hold S i = q <;> simp [z, sp_b]
          rw [e1, cnt, fin]
          have a1 : ¬ sp_law S = 1 := by omega
          simp [sp_fb, l0]
        · rw [if_neg l0, show (10 : Int32) = nI 10 from rfl, sp_ifle (by omega) (by omega)]
          have e1 : (if 10 ≤ sp_hold S i then (0 : Int32) else 1) = sp_b (sp_hb S i) := by
            by_cases z : 10 ≤ sp_hold S i
            · have : ¬ sp_hold S i < 10 := by omega
              simp [z, sp_b, sp_hb]
            · have : sp_hold S i < 10 := by omega
              simp [z, sp_b, sp_hb, this]
          rw [e1, cnt, fin]
          have a1 : sp_law S = 1 := by omega
          simp [sp_fb, a1]
  have e0 := bs_X3_mayEat_0 222 (nI q) (nI l) h
  rw [mg_C H, mq_holder H B hl] at e0
  simp only [bn_gd, bn_cI, if_true, mg_C H, mq_isBad H B hl, mg_now H, mg_al H B hq, mg_ate H B hq, Option.bind_some, sp_b_eq0] at e0
  rw [sp_ifeq (by omega) (by omega)] at e0
  rw [e0]
  unfold sp_may
  by_cases e1 : sp_hold S l = q
  · rw [if_pos e1]
    cases hb : sp_bd S l with
    | true => simp [e1, sp_b]
    | false =>
      simp only [if_true]
      cases ha : sp_al S q with
      | false => simp [sp_b]
      | true =>
        simp only [Bool.true_eq_false, if_false]
        rw [sp_if1 (by omega)]
        by_cases z : sp_ate S q = 1
        · rw [if_pos z]
          simp [z, sp_b]
        · rw [if_neg z]
          have z0 : sp_ate S q = 0 := by omega
          have k := key (sp_loaves S) 0 true none (by omega)
          rw [show (sp_b true) = 1 from rfl, show (nI 0) = 0 from rfl] at k
          rw [k]
          simp [e1, z0, sp_forb]
  · rw [if_neg e1]
    simp [e1, sp_b]
theorem mq_least (H : mg h S) (B : sp_B S) {q : Nat} (hq : q < sp_people S) : bn_ev 110 0 [some (.ref 222), some (.int (nI q)), none, none] [] h = some (some (.int (sp_o (sp_least S q))), h) ∧ ∀ k, sp_least S q = some k → k < sp_loaves S := by
  obtain ⟨b_law, ⟨b_l1, b_lv⟩, ⟨b_b1, b_bd⟩, b_pp, b_lo, b_fa, b_at, b_nu, b_ho, b_ag⟩ := id B
  rw [bs_X3_leastOf_0]
  have key : ∀ r i o, i + r = sp_loaves S → (∀ k, o = some k → k < i) → bn_ev 110 5 [some (.ref 222), some (.int (nI q)), some (.int (sp_o o)), some (.int (nI i))] [] h = some (some (.int (sp_o (sp_fold (sp_gl S q) r i o))), h) ∧ ∀ k, sp_fold (sp_gl S q) r i o = some k → k < sp_loaves S := by
    intro r
    induction r with
    | zero =>
      intro i o hi ho
      rw [bs_X3_leastOf_5, mg_loaves H, if_pos (nI_le (by omega) (by omega))]
      exact ⟨rfl, fun k hk => by have := ho k hk; omega⟩
    | succ r ih =>
      intro i o hi ho
      have hil : i < sp_loaves S := by omega
      have fs : sp_fold (sp_gl S q) (r + 1) i o = sp_fold (sp_gl S q) r (i + 1) (sp_gl S q i o) := rfl
      rw [bs_X3_leastOf_5, mg_loaves H, if_neg (nI_ge (by omega) (by omega)), ← nI_succ, fs]
      simp only [mg_C H, mq_mayEat H B hq hil, bn_gd, bn_cI, if_true, sp_b_eq0]
      cases hm : sp_may S q i with
      | false =>
        have e : sp_gl S q i o = o := by simp [sp_gl, hm]
        rw [e, if_pos rfl]
        exact ih (i + 1) o (by omega) (fun k hk => by have := ho k hk; omega)
      | true =>
        rw [if_neg (by decide)]
        cases o with
        | none =>
          have e : sp_gl S q i none = some i := by simp [sp_gl, hm]
          rw [e, if_pos (show sp_o none = -9 from rfl)]
          exact ih (i + 1) (some i) (by omega) (fun k hk => by cases hk; omega)
        | some k =>
          have hk := ho k rfl
          have h2 := b_nu i
          have h3 := b_nu k
          have e : sp_gl S q i (some k) = if sp_num S k ≤ sp_num S i then some k else some i := by simp [sp_gl, hm]
          have hne : ¬ sp_o (some k) = -9 := by
            intro z
            have h1 := nI_pos (n := k) (by omega)
            have z : nI k = -9 := z
            rw [z] at h1
            exact h1 (by decide)
          have e9 : sp_o (some k) = nI k := rfl
          rw [e, if_neg hne, e9]
          simp only [mg_C H, if_true, mq_number H B hil, mq_number H B (show k < sp_loaves S by omega)]
          rw [sp_ifle (by omega) (by omega)]
          split
          · exact ih (i + 1) (some k) (by omega) (fun k' hk' => by cases hk'; omega)
          · exact ih (i + 1) (some i) (by omega) (fun k' hk' => by cases hk'; omega)
  exact key (sp_loaves S) 0 none (by omega) (fun k hk => by cases hk)
theorem mq_greatest (H : mg h S) (B : sp_B S) : bn_ev 119 0 [some (.ref 222), none, none] [] h = some (some (.int (nI (sp_max S))), h) ∧ sp_max S ≤ 99 := by
  obtain ⟨b_law, ⟨b_l1, b_lv⟩, ⟨b_b1, b_bd⟩, b_pp, b_lo, b_fa, b_at, b_nu, b_ho, b_ag⟩ := id B
  rw [bs_X3_greatest_0]
  have key : ∀ r i a, i + r = sp_loaves S → a ≤ 99 → bn_ev 119 4 [some (.ref 222), some (.int (nI a)), some (.int (nI i))] [] h = some (some (.int (nI (sp_fold (sp_gmax S) r i a))), h) ∧ sp_fold (sp_gmax S) r i a ≤ 99 := by
    intro r
    induction r with
    | zero =>
      intro i a hi ha
      rw [bs_X3_greatest_4, mg_loaves H, if_pos (nI_le (by omega) (by omega))]
      exact ⟨rfl, ha⟩
    | succ r ih =>
      intro i a hi ha
      have hn := b_nu i
      have hil : i < sp_loaves S := by omega
      have fs : sp_fold (sp_gmax S) (r + 1) i a = sp_fold (sp_gmax S) r (i + 1) (sp_gmax S i a) := rfl
      rw [bs_X3_greatest_4, mg_loaves H, if_neg (nI_ge (by omega) (by omega)), mg_C H, mq_number H B hil, ← nI_succ, fs]
      simp only [bn_gd, bn_cI, if_true]
      rw [sp_ifle (by omega) (by omega)]
      have eg : sp_gmax S i a = if a < sp_num S i then sp_num S i else a := rfl
      rw [eg]
      by_cases z : sp_num S i ≤ a
      · rw [if_pos z, if_neg (show ¬ a < sp_num S i by omega)]
        exact ih (i + 1) _ (by omega) ha
      · rw [if_neg z, if_pos (show a < sp_num S i by omega)]
        simp only [mg_C H, if_true, mq_number H B hil]
        exact ih (i + 1) _ (by omega) hn
  exact key (sp_loaves S) 0 0 (by omega) (by omega)
theorem mq_isTold (H : mg h S) (B : sp_B S) {v : Nat} (hv : v < 2 ^ 31) : bn_ev 120 0 [some (.ref 222), some (.int (nI v)), none, none] [] h = some (some (.int (sp_b (sp_told S v))), h) := by
  obtain ⟨b_law, ⟨b_l1, b_lv⟩, ⟨b_b1, b_bd⟩, b_pp, b_lo, b_fa, b_at, b_nu, b_ho, b_ag⟩ := id B
  rw [bs_X3_isTold_0]
  have key : ∀ r i b, i + r = sp_loaves S → bn_ev 120 4 [some (.ref 222), some (.int (nI v)), some (.int (sp_b b)), some (.int (nI i))] [] h = some (some (.int (sp_b (b || sp_any (fun l => decide (sp_num S l = v)) r i))), h) := by
    intro r
    induction r with
    | zero =>
      intro i b hi
      rw [bs_X3_isTold_4, mg_loaves H, if_pos (nI_le (by omega) (by omega)), sp_bz]
      cases b <;> rfl
    | succ r ih =>
      intro i b hi
      have hil : i < sp_loaves S := by omega
      have hn := b_nu i
      have i0 := ih (i + 1) false (by omega)
      have i1 := ih (i + 1) true (by omega)
      rw [sp_b0] at i0
      rw [sp_b1] at i1
      rw [bs_X3_isTold_4, mg_loaves H, if_neg (nI_ge (by omega) (by omega)), ← nI_succ, mg_C H, mq_number H B hil]
      simp only [bn_gd, bn_cI, if_true, sp_b_eq0]
      rw [sp_ifeq (by omega) hv, i0, i1]
      simp only [sp_any]
      cases b with
      | true => rfl
      | false =>
        by_cases z : sp_num S i = v
        · simp [z]
        · simp [z]
  exact key (sp_loaves S) 0 false (by omega)
theorem ca_mis_neg (x : Int32) (hx : x < 0) : ∀ r v k, k + r < 2 ^ 31 → ca_mis S x r v (nI k) = -9 := by
  intro r
  induction r with
  | zero => intro v k hk; rfl
  | succ r ih =>
    intro v k hk
    simp only [ca_mis]
    have hne : ¬ nI k = x := fun z => nI_pos (n := k) (by omega) (by rw [z]; exact hx)
    rw [if_neg hne, ← nI_succ, ih (v + 1) (k + 1) (by omega), ih (v + 1) k (by omega)]
    split <;> rfl
theorem mq_missing (H : mg h S) (B : sp_B S) (a1 : Int32) : bn_ev 121 0 [some (.ref 222), some (.int a1), none, none] [] h = some (some (.int (ca_mis S a1 (sp_max S - 1) 1 0)), h) := by
  obtain ⟨hg, hm⟩ := mq_greatest H B
  rw [bs_X3_missing_0]
  by_cases hx : a1 < 0
  · rw [bs_X3_missing_4, mg_C H, hg]
    simp only [bn_gd, bn_cI, if_true, if_pos hx]
    have := ca_mis_neg (S := S) a1 hx (sp_max S - 1) 1 0 (by omega)
    rw [show nI 0 = 0 from rfl] at this
    rw [this]
    split <;> rfl
  · obtain ⟨x, hx1, rfl⟩ := nI_of hx
    have key : ∀ r v k, (sp_max S ≤ v ∧ r = 0 ∨ v + r = sp_max S) → v ≤ 100 → k ≤ x → bn_ev 121 4 [some (.ref 222), some (.int (nI x)), some (.int (nI (x - k))), some (.int (nI v))] [] h = some (some (.int (ca_mis S (nI x) r v (nI k))), h) := by
      intro r
      induction r with
      | zero =>
        intro v k hv h99 hk
        rw [bs_X3_missing_4, mg_C H, hg]
        simp only [bn_gd, bn_cI, if_true]
        rw [if_pos (nI_le (by omega) (by omega))]
        rfl
      | succ r ih =>
        intro v k hv h99 hk
        rw [bs_X3_missing_4, mg_C H, hg]
        simp only [bn_gd, bn_cI, if_true]
        rw [if_neg (nI_ge (by omega) (by omega)), if_neg (nI_pos (by omega)), mg_C H, mq_isTold H B (by omega)]
        simp only [if_true, sp_b_eq0, ca_mis]
        rw [sp_if0 (by omega), sp_ifeq (by omega) (by omega), ← nI_succ]
        cases sp_told S v with
        | true =>
          simp only [Bool.true_eq_false, if_false, if_true]
          exact ih (v + 1) k (by omega) (by omega) hk
        | false =>
          simp only [if_true, Bool.false_eq_true, if_false]
          by_cases z : k = x
          · rw [if_pos (by omega), if_pos z]
          · rw [if_neg (by omega), if_neg z, show nI (x - k) + -1 = nI (x - (k + 1)) from by rw [show x - k = (x - (k + 1)) + 1 by omega, pk_m1], ← nI_succ]
            exact ih (v + 1) (k + 1) (by omega) (by omega) (by omega)
    exact key (sp_max S - 1) 1 0 (by omega) (by omega) (by omega)
theorem mq_person (H : mg h S) (B : sp_B S) (a1 a2 : Int32) : bn_ev 92 0 [some (.ref 222), some (.int a1), some (.int a2)] [] h = some (some (.int (ca_person S a1 a2)), h) := by
  obtain ⟨b_law, ⟨b_l1, b_lv⟩, ⟨b_b1, b_bd⟩, b_pp, b_lo, b_fa, b_at, b_nu, b_ho, b_ag⟩ := id B
  rw [bs_X3_person_0, mg_C H, mq_isPerson H B]
  simp only [bn_gd, bn_cI, if_true, sp_b_eq0]
  unfold ca_person
  cases hi : sp_in a1 (sp_people S) with
  | false => rfl
  | true =>
    obtain ⟨j, hj, rfl⟩ := sp_in_nI hi (by omega)
    simp only [nI_clamp (show j < 2 ^ 31 by omega), Bool.true_eq_false, if_false, if_true, bs_X3_person_44, mg_now H, mg_C H, mq_held H B, mg_eatc H B hj, Option.bind_some]
    by_cases z0 : a2 = 0
    · subst z0
      simp only [if_true, show (4 : Int32) * nI j + 0 = 4 * nI j from by simp, mg_p0 H B hj, Option.bind_some]
    · by_cases z1 : a2 = 1
      · subst z1
        simp only [if_neg z0, if_true, mg_al H B hj, Option.bind_some]
      · by_cases z2 : a2 = 2
        · subst z2
          simp only [if_neg z0, if_neg z1, if_true, mg_ate H B hj, Option.bind_some]
        · simp only [if_neg z0, if_neg z1, if_neg z2]
          repeat' split
          all_goals rfl
end MM
