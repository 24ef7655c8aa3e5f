/-! A NIGHT -/
theorem sp_gc_add (f : Nat → Bool) : ∀ r i a, sp_fold (sp_gc f) r i a = a + sp_fold (sp_gc f) r i 0 := by
  intro r
  induction r with
  | zero => intro i a; rfl
  | succ r ih =>
    intro i a
    show sp_fold (sp_gc f) r (i + 1) (sp_gc f i a) = a + sp_fold (sp_gc f) r (i + 1) (sp_gc f i 0)
    rw [ih (i + 1) (sp_gc f i a), ih (i + 1) (sp_gc f i 0)]
    unfold sp_gc
    split <;> omega
theorem sp_at_some (f : Nat → Bool) : ∀ r i k, k < sp_fold (sp_gc f) r i 0 → ∃ j, sp_at f r i k = some j ∧ i ≤ j ∧ j < i + r ∧ f j = true := by
  intro r
  induction r with
  | zero => intro i k h; exact absurd h (Nat.not_lt_zero _)
  | succ r ih =>
    intro i k h
    have h : k < sp_fold (sp_gc f) r (i + 1) (sp_gc f i 0) := h
    have hg : sp_gc f i 0 = if f i = true then 0 + 1 else 0 := rfl
    rw [sp_gc_add, hg] at h
    simp only [sp_at]
    by_cases hf : f i = true
    · rw [if_pos hf] at h ⊢
      cases k with
      | zero => exact ⟨i, rfl, Nat.le_refl _, by omega, hf⟩
      | succ k =>
        obtain ⟨j, h1, h2, h3, h4⟩ := ih (i + 1) k (by omega)
        exact ⟨j, h1, by omega, by omega, h4⟩
    · rw [if_neg hf] at h ⊢
      obtain ⟨j, h1, h2, h3, h4⟩ := ih (i + 1) k (by omega)
      exact ⟨j, h1, by omega, by omega, h4⟩
def sn_y (S : sp_S) : Int64 := sp_seed S * 6364136223846793005 + 1442695040888963407
def sn_u (S : sp_S) : Nat := ly_n (sn_y S) / 2 ^ 33
def sn_a (S : sp_S) : Nat := sp_ct (sp_al S) (sp_people S)
def sn_t (S : sp_S) : Nat := (sp_at (sp_al S) (sp_people S) 0 (sn_u S % sn_a S)).getD 0
def sn_o (S : sp_S) : Nat := sp_ct (sp_ho S (sn_t S)) (sp_loaves S)
def sn_l (S : sp_S) : Nat := (sp_at (sp_ho S (sn_t S)) (sp_loaves S) 0 (sn_u S / sn_a S % sn_o S)).getD 0
def ca_night (X : ct_X) : Int32 × ct_X := if sn_a X.2.1 = 0 then (-9, X) else if sn_o X.2.1 = 0 then (-9, ct_rem X (sp_u_seed X.2.1 (sn_y X.2.1))) else (nI (10 * sn_t X.2.1 + sn_l X.2.1), ct_rem X (sp_u_hold (sp_u_seed X.2.1 (sn_y X.2.1)) (sn_l X.2.1) (sn_t X.2.1)))
theorem sn_t_ok {S : sp_S} (ha : ¬ sn_a S = 0) : sp_at (sp_al S) (sp_people S) 0 (sn_u S % sn_a S) = some (sn_t S) ∧ sn_t S < sp_people S := by
  obtain ⟨j, h1, h2, h3, h4⟩ := sp_at_some (sp_al S) (sp_people S) 0 (sn_u S % sn_a S) (Nat.mod_lt _ (Nat.pos_of_ne_zero ha))
  have : sn_t S = j := by unfold sn_t; rw [h1]; rfl
  rw [this]
  exact ⟨h1, by omega⟩
theorem sn_l_ok {S : sp_S} (ho : ¬ sn_o S = 0) : sp_at (sp_ho S (sn_t S)) (sp_loaves S) 0 (sn_u S / sn_a S % sn_o S) = some (sn_l S) ∧ sn_l S < sp_loaves S := by
  obtain ⟨j, h1, h2, h3, h4⟩ := sp_at_some (sp_ho S (sn_t S)) (sp_loaves S) 0 (sn_u S / sn_a S % sn_o S) (Nat.mod_lt _ (Nat.pos_of_ne_zero ho))
  have : sn_l S = j := by unfold sn_l; rw [h1]; rfl
  rw [this]
  exact ⟨h1, by omega⟩
theorem sn_u_lt (S : sp_S) : sn_u S < 2 ^ 31 := by
  have := ly_lt (sn_y S)
  unfold sn_u
  omega
theorem sn_drawn (S : sp_S) : (bn_lushr (sn_y S) 33).toInt32 = nI (sn_u S) := by
  rw [show (33 : Int32) = nI 33 from rfl, ly_lushr _ (by omega), lN_i]
  rfl
theorem sz_aliveAt {h : bn_H} {p k : Nat} {S : sp_S} {y : Int64} (G : sg_G h p (sp_u_seed S y)) (B : sp_B S) (hk : k < 2 ^ 31) : bn_ev 12 0 [some (.ref p), some (.int (nI k)), none, none] [] h = some (some (.int (sp_o (sp_at (sp_al S) (sp_people S) 0 k))), h) := sq_aliveAt G B hk
theorem sz_othersCount {h : bn_H} {p q : Nat} {S : sp_S} {y : Int64} (G : sg_G h p (sp_u_seed S y)) (B : sp_B S) (hq : q < 2 ^ 31) : bn_ev 15 0 [some (.ref p), some (.int (nI q)), none, none] [] h = some (some (.int (nI (sp_ct (sp_ho S q) (sp_loaves S)))), h) := by rw [← sp_count_nI]; exact sq_othersCount G B hq
theorem sz_othersAt {h : bn_H} {p q k : Nat} {S : sp_S} {y : Int64} (G : sg_G h p (sp_u_seed S y)) (B : sp_B S) (hq : q < 2 ^ 31) (hk : k < 2 ^ 31) : bn_ev 16 0 [some (.ref p), some (.int (nI q)), some (.int (nI k)), none, none] [] h = some (some (.int (sp_o (sp_at (sp_ho S q) (sp_loaves S) 0 k))), h) := sq_othersAt G B hq hk
theorem sp_seed_B {S : sp_S} (B : sp_B S) (y : Int64) : sp_B (sp_u_seed S y) := B
theorem cq_night {h : bn_H} {X : ct_X} (H : cw h X) (hB : ct_B X) : cq_ok 57 [some (.ref 0), none, none, none, none, none] h (ca_night X).1 (ca_night X).2 := by
  obtain ⟨f, c, O, -⟩ := H.O
  have G := H.G
  have B := hB.2.2.1
  obtain ⟨b_law, ⟨b_l1, b_lv⟩, ⟨b_b1, b_bd⟩, b_pp, b_lo, b_fa, b_at, b_nu, b_ho, b_ag⟩ := id B
  have ale := sp_ct_le (sp_al X.2.1) (sp_people X.2.1)
  have hu := sn_u_lt X.2.1
  have e0 := bs_X2_night_0 0 h
  have ec : bn_ev 11 0 [some (.ref 3)] [] h = some (some (.int (nI (sn_a X.2.1))), h) := sq_aliveCount G B
  have ale : sn_a X.2.1 ≤ sp_people X.2.1 := ale
  simp only [co_now O, sg_isC G, ec, bn_gd, bn_cI, if_true, sp_if0 (show sn_a X.2.1 < 2 ^ 31 by omega)] at e0
  unfold ca_night
  by_cases h0 : sn_a X.2.1 = 0
  · rw [if_pos h0] at e0
    rw [if_pos h0]
    exact cq_ok.same H e0
  · rw [if_neg h0] at e0
    rw [if_neg h0]
    obtain ⟨ht1, ht2⟩ := sn_t_ok h0
    obtain ⟨h1, e1, H1, F1⟩ := cq_remember H hB
    obtain ⟨f1, c1, O1, -⟩ := H1.O
    have G1 : sg_G h1 3 X.2.1 := H1.G
    obtain ⟨h2, e2, F2, G2⟩ := sg_s_seed G1 (sn_y X.2.1)
    have H2 := H1.now (F2.mono (fun k hk => by unfold sp_P; omega)) G2
    obtain ⟨f2, c2, O2, -⟩ := H2.O
    have B2 := sp_seed_B B (sn_y X.2.1)
    have at1 : bn_ev 12 0 [some (.ref 3), some (.int (nI (sn_u X.2.1 % sn_a X.2.1))), none, none] [] h2 = some (some (.int (nI (sn_t X.2.1))), h2) := by
      rw [sz_aliveAt G2 B (show sn_u X.2.1 % sn_a X.2.1 < 2 ^ 31 by have := Nat.mod_lt (sn_u X.2.1) (Nat.pos_of_ne_zero h0); omega)]
      rw [ht1]
      rfl
    have oc : bn_ev 15 0 [some (.ref 3), some (.int (nI (sn_t X.2.1))), none, none] [] h2 = some (some (.int (nI (sn_o X.2.1))), h2) := sz_othersCount G2 B (show sn_t X.2.1 < 2 ^ 31 by omega)
    have ole : sn_o X.2.1 ≤ sp_loaves X.2.1 := sp_ct_le _ _
    have na : ¬ nI (sn_a X.2.1) = 0 := nI_ne0 (Nat.pos_of_ne_zero h0) (by omega)
    have er : bn_rem (nI (sn_u X.2.1)) (nI (sn_a X.2.1)) = nI (sn_u X.2.1 % sn_a X.2.1) := pk_rem (by omega) (Nat.pos_of_ne_zero h0) (by omega)
    have ed : nI (sn_u X.2.1) / nI (sn_a X.2.1) = nI (sn_u X.2.1 / sn_a X.2.1) := pk_div (by omega) (Nat.pos_of_ne_zero h0) (by omega)
    have sd : ∀ K, bn_gJ h2 3 0 4 K = K (sn_y X.2.1) := fun K => sg_seed G2
    have e2' : bn_pf h1 3 0 4 (.long (sp_seed X.2.1 * 6364136223846793005 + 1442695040888963407)) = some h2 := e2
    have FF := F1.tr (F2.mono (eq_lt (by omega)))
    have ev : bn_ev 57 0 [some (.ref 0), none, none, none, none, none] [] h = if sn_o X.2.1 = 0 then bn_ev 57 98 [some (.ref 0), some (.int (nI (sn_a X.2.1))), some (.int (nI (sn_u X.2.1))), some (.int (nI (sn_t X.2.1))), some (.int (nI (sn_o X.2.1))), none] [.int (-9)] h2 else (if nI (sn_o X.2.1) = 0 then none else bn_cI (bn_ev 16 0 [some (.ref 3), some (.int (nI (sn_t X.2.1))), some (.int (bn_rem (nI (sn_u X.2.1 / sn_a X.2.1)) (nI (sn_o X.2.1)))), none, none] [] h2) (fun x h => bn_ev 57 98 [some (.ref 0), some (.int (nI (sn_a X.2.1))), some (.int (nI (sn_u X.2.1))), some (.int (nI (sn_t X.2.1))), some (.int (nI (sn_o X.2.1))), none] [.int x] h)) := by
      refine e0.trans ?_
      simp only [co_C O, e1, bn_gd, bn_cV, if_true, co_now O1, sg_seed G1, e2', Option.bind_some, co_now O2, sd, sn_drawn, if_neg na, er, at1, sg_isC G2, bn_cI, oc, ed]
      simp only [if_neg h0]
      rw [sp_if0 (by omega)]
    by_cases ho : sn_o X.2.1 = 0
    · rw [if_pos ho] at ev
      rw [if_pos ho]
      refine ⟨h2, ev.trans ?_, H2, FF⟩
      rw [bs_X2_night_98, if_neg (by decide)]
    · rw [if_neg ho, if_neg (nI_ne0 (Nat.pos_of_ne_zero ho) (by omega))] at ev
      rw [if_neg ho]
      obtain ⟨hl1, hl2⟩ := sn_l_ok ho
      have hq : sn_u X.2.1 / sn_a X.2.1 ≤ sn_u X.2.1 := Nat.div_le_self _ _
      have er2 : bn_rem (nI (sn_u X.2.1 / sn_a X.2.1)) (nI (sn_o X.2.1)) = nI (sn_u X.2.1 / sn_a X.2.1 % sn_o X.2.1) := pk_rem (by omega) (Nat.pos_of_ne_zero ho) (by omega)
      have at2 : bn_ev 16 0 [some (.ref 3), some (.int (nI (sn_t X.2.1))), some (.int (nI (sn_u X.2.1 / sn_a X.2.1 % sn_o X.2.1))), none, none] [] h2 = some (some (.int (nI (sn_l X.2.1))), h2) := by
        rw [sz_othersAt G2 B (show sn_t X.2.1 < 2 ^ 31 by omega) (show sn_u X.2.1 / sn_a X.2.1 % sn_o X.2.1 < 2 ^ 31 by have := Nat.mod_lt (sn_u X.2.1 / sn_a X.2.1) (Nat.pos_of_ne_zero ho); omega)]
        rw [hl1]
        rfl
      rw [er2, at2] at ev
      obtain ⟨h3, e3, F3, G3⟩ := sg_s_hold G2 (show sn_l X.2.1 < 10 by omega) (sn_t X.2.1)
      refine ⟨h3, ev.trans ?_, H2.now (F3.mono (fun k hk => by unfold sp_P; omega)) G3, FF.tr (F3.mono (eq_lt (by omega)))⟩
      simp only [bn_cI]
      rw [bs_X2_night_98, if_pos (nI_pos' (by omega)), co_now O2, sg_r5 G2, e3, Option.bind_some, show (10 : Int32) * nI (sn_t X.2.1) = nI (10 * sn_t X.2.1) from pk_mul 10 _, nI_add]
