-- THE LAW'S START: FROM PLACES TO IDS
theorem k_arrV {cA : ClassId} {N : Nat} {f g : Nat → Value} (h : ∀ k, k < N → f k = g k) : arrV cA N f = arrV cA N g := by
  unfold arrV
  congr 2
  funext j
  exact h j.val j.isLt
theorem k_at {D : va_G} {cs : Nat → ClassId} {b : Nat} {ads : Nat → Nat} {i : Q_Id} {k : Nat} {e : K_E} {H : Heap} (he : k_EL[k]? = some e) (hr : k_rk i k = true) (hc : k_ck i e = true) (h : va_at D vwCl (ads k, k_enc cs ads e) H) : va_at D vwCl (k_ad b ads i, q_enc cs (k_ad b ads) k_M0 i) H := by
  have ea := k_ad_rk (b := b) (ads := ads) hr
  have epx : k_px i = k := by
    unfold k_rk at hr
    rw [Bool.and_eq_true] at hr
    exact Nat.eq_of_beq_eq_true hr.1
  have e1 : ∀ k, k_M0.1 i.1 i.2.1 i.2.2 k = k_mi (some e) k := fun k' => by
    show k_mi (k_EL[k_px i]?) k' = _
    rw [epx, he]
  have e2 : ∀ k, k_M0.2.1 i.1 i.2.1 i.2.2 k = k_mr i.1 (some e) k := fun k' => by
    show k_mr i.1 (k_EL[k_px i]?) k' = _
    rw [epx, he]
  rw [ea]
  rcases e with o | ⟨t, L | L | L⟩
  · unfold k_ck at hc
    dsimp only at hc
    split at hc
    · rename_i r hl
      rw [Bool.and_eq_true] at hc
      have h1 := Nat.eq_of_beq_eq_true hc.1
      have h2 := k_cv_ok (b := b) (ads := ads) (M := k_M0) 0 hc.2 (fun k' => by rw [Nat.zero_add]; exact e1 k')
      have e3 : q_enc cs (k_ad b ads) k_M0 i = k_enc cs ads (.inl o) := by
        unfold q_enc
        rw [hl]
        show (Sum.inr (r.1, _) : va_E) = Sum.inr (o.1, o.2.map (k_e ads))
        rw [← h2, h1]
        congr 2
        congr 1
        funext k' sl
        rw [Nat.zero_add]
      rw [e3]
      exact h
    · cases hc
  · unfold k_ck at hc
    dsimp only at hc
    split at hc
    · rename_i r hl ha
      rw [Bool.and_eq_true] at hc
      have h1 := Nat.eq_of_beq_eq_true hc.1
      have h2 := Nat.eq_of_beq_eq_true hc.2
      have e3 : q_enc cs (k_ad b ads) k_M0 i = k_enc cs ads (.inr (t, .inl L)) := by
        rw [q_enc_arr ha]
        show (Sum.inl (cs r.1, r.2, .inl (k_M0.1 i.1 i.2.1 i.2.2)) : va_E) = Sum.inl (cs t.1, t.2, .inl (k_li L))
        rw [h1, h2, show k_M0.1 i.1 i.2.1 i.2.2 = k_li L from funext e1]
      rw [e3]
      exact h
    · cases hc
  · unfold k_ck at hc
    dsimp only at hc
    split at hc
    · rename_i r hl ha hrr
      simp only [Bool.and_eq_true] at hc
      obtain ⟨h1, h2, h3⟩ := hc
      have h1 := Nat.eq_of_beq_eq_true h1
      have h2 := Nat.eq_of_beq_eq_true h2
      have h3 := List.all_eq_true.mp h3
      have e3 : q_enc cs (k_ad b ads) k_M0 i = .inl (cs t.1, t.2, .inr (.inr (.inr (.inr fun k => some (k_ad b ads (q_tg k_M0 i t.1 k)))))) := by
        unfold q_enc
        rw [hl, ha, hrr]
        show (Sum.inl (cs r.1, r.2, _) : va_E) = _
        rw [h1, h2]
      rw [e3]
      have key : arrV (cs t.1) t.2 (fun j => va_rf ((k_lr L j).map ads)) = arrV (cs t.1) t.2 (fun j => va_rf (some (k_ad b ads (q_tg k_M0 i t.1 j)))) := by
        refine k_arrV fun k' hk' => ?_
        have g := h3 k' (List.mem_range.mpr hk')
        split at g
        · rename_i p hp
          show va_rf ((k_lr L k').map ads) = va_rf (some (k_ad b ads (q_tg k_M0 i t.1 k')))
          have e4 : q_tg k_M0 i t.1 k' = q_tgi i t.1 (k_mt i.1 p) := by
            unfold q_tg
            rw [e2 k']
            show q_tgi i t.1 (match k_lr L k' with | some p => k_mt i.1 p | none => 0) = _
            rw [hp]
          rw [hp, e4, k_ad_rk g]
          rfl
        · cases g
      exact Eq.trans h (congrArg some key)
    · cases hc
  · unfold k_ck at hc
    dsimp only at hc
    split at hc
    · rename_i hl ha hrr
      rw [Bool.and_eq_true] at hc
      have h1 := Nat.eq_of_beq_eq_true hc.1
      have h2 := Nat.eq_of_beq_eq_true hc.2
      have e3 : q_enc cs (k_ad b ads) k_M0 i = k_enc cs ads (.inr (t, .inr (.inr L))) := by
        unfold q_enc
        rw [hl, ha, hrr]
        show (Sum.inl (cs 5, 1, .inr (.inl _)) : va_E) = Sum.inl (cs t.1, t.2, .inr (.inl (fun _ => 0)))
        rw [h1, h2]
        rfl
      rw [e3]
      exact h
    · cases hc
theorem k_WP {D : va_G} {cs : Nat → ClassId} {b : Nat} {ads : Nat → Nat} {A : Nat → Prop} {H : Heap} (hP : va_P D vwCl (k_W cs ads k_EL) H) (hD : va_D A (k_W cs ads k_EL)) : va_P D vwCl (q_W cs (k_ad b ads) k_dm k_M0) H ∧ va_D A (q_W cs (k_ad b ads) k_dm k_M0) := by
  have key : ∀ (k : Nat) (q : Nat × va_E), (q_W cs (k_ad b ads) k_dm k_M0)[k]? = some q → ∃ (i : Q_Id) (e : K_E), q = (k_ad b ads i, q_enc cs (k_ad b ads) k_M0 i) ∧ k_EL[k]? = some e ∧ k_rk i k = true ∧ k_ck i e = true := by
    intro k q hq
    unfold q_W at hq
    rw [List.getElem?_map] at hq
    cases hi : k_dm[k]? with
    | none => rw [hi] at hq; cases hq
    | some i =>
      rw [hi] at hq
      cases hq
      have hk : k < 340 := by
        have := (List.getElem?_eq_some_iff.mp hi).1
        rw [k_dmlen.1] at this
        exact this
      have g := List.all_eq_true.mp k_dmok k (List.mem_range.mpr hk)
      rw [hi] at g
      split at g
      · rename_i i' e hi' he
        cases hi'
        rw [Bool.and_eq_true] at g
        exact ⟨i, e, rfl, he, g.1, g.2⟩
      · cases g
  refine ⟨fun k q hq => ?_, fun k k' q q' hq hq' h => ?_, fun k q hq => ?_⟩
  · obtain ⟨i, e, rfl, he, hr, hc⟩ := key k q hq
    exact k_at he hr hc (hP k _ (k_W_at he))
  · obtain ⟨i, e, rfl, he, hr, hc⟩ := key k q hq
    obtain ⟨i', e', rfl, he', hr', hc'⟩ := key k' q' hq'
    refine hD.1 k k' _ _ (k_W_at he) (k_W_at he') ?_
    have h : k_ad b ads i = k_ad b ads i' := h
    rw [k_ad_rk hr, k_ad_rk hr'] at h
    exact h
  · obtain ⟨i, e, rfl, he, hr, hc⟩ := key k q hq
    show A (k_ad b ads i)
    rw [k_ad_rk hr]
    exact hD.2 k _ (k_W_at he)
