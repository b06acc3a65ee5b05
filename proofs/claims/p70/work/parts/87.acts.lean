-- THE LAW'S CHANGE BY A CELL
abbrev pL_acts : Q_P := fun av M K KX => ∃ (S : Nat → Int32) (h : Nat) (G : Nat → Nat → Int32) (kb : Nat → Int32) (T : Nat → Nat → Int32) (n : Nat) (tx : Nat → Nat) (c : Nat) (y : Int32), CV M S h G kb T n tx ∧ GS S c ∧ c < 60 ∧ av = [w_x, .inl y] ∧ A_K K c M S h G kb T n tx
abbrev t_l (y v k x : Int32) : List (Nat × Q_V) := [(4, .inl x), (3, .inl k), (2, .inl v), (0, w_x), (1, .inl y)]
def t_offs : Array Int := #[103, 103, 103, 103, 110, 145, 145, 145, 145, 159, 168, 177, 186, 197, 206, 215, 224, 237, 237, 237, 237, 237]
theorem b_isIdle {M : Q_M} {S : Nat → Int32} (hR : RC 0 M S) (a : Int32) {K : Option Q_V → Q_M → Prop} (hK : ∀ v : Int32, K (some (.inl v)) M) : pL_isIdle [w_x, .inl a] M K (fun _ _ => False) := ⟨S, a, hR, rfl, fun _ _ _ => hK _, fun _ => hK _⟩
theorem b_who {M : Q_M} {S : Nat → Int32} (hR : RC 0 M S) (a : Int32) {K : Option Q_V → Q_M → Prop} (hK : ∀ v : Int32, K (some (.inl v)) M) : pL_who [w_x, .inl a] M K (fun _ _ => False) := ⟨S, a, hR, rfl, fun _ _ _ _ => hK _, fun _ => hK _, fun _ _ _ _ => hK _⟩
theorem b_waiter {M : Q_M} {S : Nat → Int32} (hR : RC 0 M S) (a : Int32) {K : Option Q_V → Q_M → Prop} (hK : ∀ v : Int32, K (some (.inl v)) M) : pL_waiter [w_x, .inl a] M K (fun _ _ => False) := ⟨S, a, hR, rfl, fun _ _ _ => hK _, fun _ => hK _⟩
theorem C2L {l : Launch} {b : Bool} {j : Nat} {P : Q_P} (h1 : 149 ≤ j) (h2 : j < 185) (h : q_CtL l b j P) : q_C2 l b j P := Or.inr ⟨h1, h2, h⟩
set_option maxRecDepth 100000 in
theorem cL_acts_ct {l : Launch} {b : Bool} (hl0 : l.stackTraces = false) : q_Ct l b 146 pL_acts := by
  refine q_methS (Or.inl rfl) TL_acts kL_acts ?_
  intro av M K KX hwf
  rintro ⟨S, h, G, kb, T, n, tx, c, y, hc, g, h60, rfl, hK⟩
  refine ⟨Nat.le_of_ble_eq_true rfl, fun Z hz hw => ?_⟩
  have hR : RC 0 M S := hc.1
  have hz : ∀ stops n z pc ls st M, q_vc2 9 146 23 (some .int) none (q_C2 l b) K TL_acts Z stops n z pc ls st M → Z z pc ls st M := hz
  have t1 : ∀ (z : Nat) (v k x : Int32), z ≤ 3 → Z z 45 (t_l y v k x) [] M := by
    intro z v k x hz3
    have e152 : Z z 152 (t_l y v k x) [] M := by
      apply hz [] 20
      exact ⟨by omega, _, C2L (by decide) (by decide) (cL_give_ct hl0), a_give hc g h60 hK _⟩
    have e190 : ∀ (z : Nat) (a : Int32), z ≤ 10 → Z z 190 (t_l y v k x) [.inl a, w_x] M := by
      intro z a hz3
      apply hz [] 20
      exact ⟨by omega, _, C2L (by decide) (by decide) (cL_leave_ct hl0), a_leave hc g h60 hK _⟩
    have e186 : ∀ z : Nat, z ≤ 10 → Z z 186 (t_l y v k x) [w_x] M := by
      intro z hz3
      apply hz [190] 20
      exact ⟨by decide, e190 _ _ hz3⟩
    have e159 : Z z 159 (t_l y v k x) [] M := by
      apply hz [186, 190] 40
      refine ⟨by omega, _, q_C2i rfl (cX8_waiting_ct hl0), S, hR, rfl, ?_⟩
      refine And.intro (fun _ => e186 _ (by omega)) (fun hq => ?_)
      refine ⟨by decide, ?_⟩
      refine And.intro (fun _ => e186 _ (by omega)) (fun _ => ?_)
      refine ⟨by omega, _, q_C2i rfl (cX8_waiting_ct hl0), S, hR, rfl, ?_⟩
      refine ⟨fun e => hq (by rw [e]; decide), ?_⟩
      exact ⟨by omega, _, C2L (by decide) (by decide) (cL_waiter_ct hl0), b_waiter hR _ (fun v => e190 _ _ (by omega))⟩
    have e194 : Z z 194 (t_l y v k x) [] M := by
      apply hz [] 20
      exact ⟨by decide, by decide, by omega, _, C2L (by decide) (by decide) (cL_use_ct hl0), a_use hc g h60 hK _ _⟩
    have e208 : Z z 208 (t_l y v k x) [] M := by
      apply hz [] 20
      exact ⟨by decide, by omega, _, C2L (by decide) (by decide) (cL_breaks_ct hl0), a_breaks hc g h60 hK _⟩
    have e217 : Z z 217 (t_l y v k x) [] M := by
      apply hz [] 20
      exact ⟨by decide, by omega, _, C2L (by decide) (by decide) (cL_most_ct hl0), a_most hc g h60 hK _⟩
    have e226 : Z z 226 (t_l y v k x) [] M := by
      apply hz [] 20
      exact ⟨by decide, by omega, _, C2L (by decide) (by decide) (cL_idles_ct hl0), a_idles hc g h60 hK _⟩
    have e235 : Z z 235 (t_l y v k x) [] M := by
      apply hz [] 20
      exact ⟨by decide, by omega, _, C2L (by decide) (by decide) (cL_ages_ct hl0), a_ages hc g h60 hK _⟩
    have e246 : Z z 246 (t_l y v k x) [] M := by
      apply hz [] 20
      exact ⟨by decide, by omega, _, C2L (by decide) (by decide) (cL_rests_ct hl0), a_rests hc g h60 hK _⟩
    have e255 : Z z 255 (t_l y v k x) [] M := by
      apply hz [] 20
      exact ⟨by decide, by omega, _, C2L (by decide) (by decide) (cL_leases_ct hl0), a_leases hc g h60 hK _⟩
    have e264 : Z z 264 (t_l y v k x) [] M := by
      apply hz [] 20
      exact ⟨by decide, by omega, _, C2L (by decide) (by decide) (cL_waits_ct hl0), a_waits hc g h60 hK _⟩
    have e273 : Z z 273 (t_l y v k x) [] M := by
      apply hz [] 20
      refine ⟨by omega, _, q_C2i rfl (cX8_turnOrder_ct hl0), S, h, G, kb, T, n, tx, hc, rfl, fun M' hc' _ => ?_⟩
      exact And.intro (fun _ => hK.2 _ _ _ (by decide) hc' (a_turn hc g hc')) (fun _ => hK.2 _ _ _ (by decide) hc' (a_turn hc g hc'))
    have e308 : ∀ a : Int32, Z z 308 (t_l y v k x) [.inl a, w_x] M := by
      intro a
      apply hz [] 20
      exact ⟨by omega, _, C2L (by decide) (by decide) (cL_tick_ct hl0), a_tick hc g h60 hK _⟩
    have e286 : Z z 286 (t_l y v k x) [] M := by
      apply hz [308] 20
      refine ⟨by decide, And.intro (fun _ => ?_) (fun _ => ?_)⟩
      · exact ⟨by decide, by decide, e308 _⟩
      · exact ⟨by decide, by decide, e308 _⟩
    have e312 : Z z 312 (t_l y v k x) [] M := by
      apply hz [] 20
      exact ⟨by decide, by decide, by decide, by omega, _, C2L (by decide) (by decide) (cL_ask_ct hl0), a_ask hc g h60 hK _ _⟩
    have hcase : ∀ q : Nat, q < 22 → ∃ (off : Int) (t : Nat), t_offs[q]? = some off ∧ (49 : Int) + off = (t : Int) ∧ Z z t (t_l y v k x) [] M := by
      intro q hq
      match q, hq with
      | 0, _ => exact ⟨103, 152, rfl, rfl, e152⟩
      | 1, _ => exact ⟨103, 152, rfl, rfl, e152⟩
      | 2, _ => exact ⟨103, 152, rfl, rfl, e152⟩
      | 3, _ => exact ⟨103, 152, rfl, rfl, e152⟩
      | 4, _ => exact ⟨110, 159, rfl, rfl, e159⟩
      | 5, _ => exact ⟨145, 194, rfl, rfl, e194⟩
      | 6, _ => exact ⟨145, 194, rfl, rfl, e194⟩
      | 7, _ => exact ⟨145, 194, rfl, rfl, e194⟩
      | 8, _ => exact ⟨145, 194, rfl, rfl, e194⟩
      | 9, _ => exact ⟨159, 208, rfl, rfl, e208⟩
      | 10, _ => exact ⟨168, 217, rfl, rfl, e217⟩
      | 11, _ => exact ⟨177, 226, rfl, rfl, e226⟩
      | 12, _ => exact ⟨186, 235, rfl, rfl, e235⟩
      | 13, _ => exact ⟨197, 246, rfl, rfl, e246⟩
      | 14, _ => exact ⟨206, 255, rfl, rfl, e255⟩
      | 15, _ => exact ⟨215, 264, rfl, rfl, e264⟩
      | 16, _ => exact ⟨224, 273, rfl, rfl, e273⟩
      | 17, _ => exact ⟨237, 286, rfl, rfl, e286⟩
      | 18, _ => exact ⟨237, 286, rfl, rfl, e286⟩
      | 19, _ => exact ⟨237, 286, rfl, rfl, e286⟩
      | 20, _ => exact ⟨237, 286, rfl, rfl, e286⟩
      | 21, _ => exact ⟨237, 286, rfl, rfl, e286⟩
      | q + 22, hq => exact absurd hq (by omega)
    apply hz [] 4
    refine ⟨by decide, ?_⟩
    refine And.intro (fun _ => Exists.intro 312 ⟨rfl, e312⟩) (fun h1 h2 => ?_)
    generalize hx9 : (y - y / q_i 32 * q_i 32) = x9 at h1 h2 ⊢
    have h1 : ¬ x9.toInt < 8 := h1
    have h2 : ¬ 29 < x9.toInt := h2
    obtain ⟨off, t, k1, k2, k3⟩ := hcase (x9.toInt - 8).toNat (by omega)
    exact ⟨off, t, k1, k2, k3⟩
  have t2 : ∀ (z : Nat) (v k : Int32), z ≤ 0 → Z z 22 [(2, .inl v), (0, w_x), (1, .inl y)] [.inl k] M := by
    intro z v k hz0
    apply hz [45] 30
    refine ⟨by omega, _, C2L (by decide) (by decide) (cL_isIdle_ct hl0), b_isIdle hR _ (fun r => ?_)⟩
    refine And.intro (fun _ => ?_) (fun _ => ?_)
    · exact ⟨by omega, _, C2L (by decide) (by decide) (cL_who_ct hl0), b_who hR _ (fun r => t1 _ _ _ _ (by omega))⟩
    · exact ⟨by decide, t1 _ _ _ _ (by omega)⟩
  apply hz [22] 30
  refine ⟨by decide, by omega, _, q_C2i rfl (cX8_livingByGoing_ct hl0), S, hR, rfl, ?_⟩
  refine And.intro (fun _ => t2 _ _ _ (by omega)) (fun hn => ?_)
  exact ⟨by omega, _, q_C2i rfl (cX8_livingByGoing_ct hl0), S, hR, rfl, hn, t2 _ _ _ (by omega)⟩
