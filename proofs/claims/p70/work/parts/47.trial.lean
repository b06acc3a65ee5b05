-- TICKS TO SERVE, TICKS TO CLOSE
def s_ts (x : Nat) : Nat → Nat → (Nat → Int32) → Nat
  | 0, _, _ => 0
  | f + 1, m, S => if s_lk (s_tk S).2 (nI x) (s_n (s_tk S).2) = none then (if s_qd (s_tk S).2 (nI x) (s_q (s_tk S).2) = none then 0 else s_ts x f (m + 1) (s_tk S).2) else m + 1
theorem s_ps_0 (X : Nat → Int32) : (s_ps 0 X).2 = X := rfl
theorem s_ps_s (t : Nat) (S : Nat → Int32) : (s_ps (t + 1) S).2 = (s_ps t (s_tk S).2).2 := rfl
theorem s_ps_1 (S : Nat → Int32) : (s_ps 1 S).2 = (s_tk S).2 := (s_ps_s 0 S).trans (s_ps_0 _)
abbrev pX8_ticksToServe : Q_P := fun av M K KX => ∃ (S : Nat → Int32) (h : Nat) (G : Nat → Nat → Int32) (kb : Nat → Int32) (T : Nat → Nat → Int32) (n : Nat) (tx : Nat → Nat) (a : Int32), CV M S h G kb T n tx ∧ av = [.inr (.inl (0, 0, 0)), .inl a] ∧ (∀ x p, x < 20 → a = nI x → s_qd S (nI x) (s_q S) = some p → ∀ M', CV M' S h G kb T n tx → q_fx M M' → K (some (.inl (nI (s_ts x 99 0 S)))) M') ∧ (¬ s_rg 0 19 a → KX 1 M) ∧ (s_rg 0 19 a → s_qd S a (s_q S) = none → KX 3 M)
theorem cX8_ticksToServe_ct {l : Launch} {b : Bool} (hl0 : l.stackTraces = false) : q_Ct l b 119 pX8_ticksToServe := by
  refine q_meth (by decide +kernel) hl0 TX8_ticksToServe kX8_ticksToServe ?_
  intro av M K KX hwf
  rintro ⟨S, h, G, kb, T, n, tx, a, hc, rfl, hK, hX, hX3⟩
  refine ⟨Nat.le_of_ble_eq_true rfl, fun Z hz hw => ?_⟩
  apply hz [19] 60
  refine Exists.intro _ ⟨cX8_queuePlaceWanted_ct hl0, S, a, hc.1, rfl, fun x p hx e hl => ?_, hX, hX3⟩
  subst e
  have hK := hK x p hx rfl hl
  have hm1 : nI x ≠ -1 := fun g => q_m1n (by omega) g.symm
  have loop : ∀ (f m : Nat) (S1 : Nat → Int32) (M1 : Q_M), m + f = 99 → RC 1 M1 S1 → q_sm 1 M M1 → s_ts x f m S1 = s_ts x 99 0 S → Z 2 19 [(2, .inl (nI (m + 1))), (0, .inr (.inl (0, 0, 0))), (1, .inl (nI x))] [] M1 := by
    intro f
    induction f with
    | zero =>
      intro m S1 M1 hm hR hsm he
      obtain rfl : m = 99 := by omega
      have he : 0 = s_ts x 99 0 S := he
      have hh := hK M1 (CV_trial hc hR hsm) (q_fx_sm hsm)
      rw [← he] at hh
      apply hz [19] 60
      exact And.intro (fun _ => hh) (fun g => absurd (show nI 99 < nI 100 from nI_lt (by omega) (by omega)) g)
    | succ f ih =>
      intro m S1 M1 hm hR hsm he
      have wn := hR.1.1.2
      apply hz [19] 100
      refine And.intro (fun (g : nI 99 < nI (m + 1)) => absurd ((nI_ltI (by omega) (by omega)).mp g) (by omega)) (fun _ => ?_)
      refine Exists.intro _ ⟨cX7_passTicks_ct hl0, 1, 1, S1, hR, by omega, rfl, fun M2 h1 h2 => ?_⟩
      rw [s_ps_1] at h1
      have hs2 := q_sm_tr hsm h2
      have he : (if s_lk (s_tk S1).2 (nI x) (s_n (s_tk S1).2) = none then (if s_qd (s_tk S1).2 (nI x) (s_q (s_tk S1).2) = none then 0 else s_ts x f (m + 1) (s_tk S1).2) else m + 1) = s_ts x 99 0 S := he
      refine Exists.intro _ ⟨cX7_placeWith_ct hl0, 1, (s_tk S1).2, nI x, h1, hm1, rfl, ?_⟩
      cases hl2 : s_lk (s_tk S1).2 (nI x) (s_n (s_tk S1).2) with
      | some p2 =>
        rw [if_neg (by rw [hl2]; exact fun g => (by cases g))] at he
        have hh := hK M2 (CV_trial hc h1 hs2) (q_fx_sm hs2)
        rw [← he] at hh
        exact And.intro (fun g => absurd (Eq.symm g) (q_m1n (by have := (s_lk_lt hl2).1; have := h1.1.1.2; omega))) (fun _ => hh)
      | none =>
        rw [if_pos hl2] at he
        refine And.intro (fun _ => ?_) (fun g => absurd rfl g)
        refine Exists.intro _ ⟨cX5_placeIn_ct hl0, 1, (s_tk S1).2, nI x, h1, rfl, ?_⟩
        cases hq2 : s_qd (s_tk S1).2 (nI x) (s_q (s_tk S1).2) with
        | none =>
          rw [if_pos hq2] at he
          have hh := hK M2 (CV_trial hc h1 hs2) (q_fx_sm hs2)
          rw [← he] at hh
          exact And.intro (fun _ => hh) (fun g => absurd rfl g)
        | some p2 =>
          rw [if_neg (by rw [hq2]; exact fun g => (by cases g))] at he
          have hh := ih (m + 1) (s_tk S1).2 M2 (by omega) h1 hs2 he
          rw [← nI_add (m + 1) 1] at hh
          exact And.intro (fun g => absurd (Eq.symm g) (q_m1n (by have := (s_qd_lt hq2).1; have := h1.1.2.1.2; omega))) (fun _ => hh)
  refine Exists.intro _ ⟨cX7_copyFrom_ct hl0, 1, 0, S, by omega, hc.1, hc.2.1 1 (by omega), rfl, fun M1 h1 h2 => ?_⟩
  exact loop 99 0 S M1 (by omega) h1 h2 rfl
