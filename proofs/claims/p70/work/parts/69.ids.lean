-- THE LAW'S START: THE PLACES' IDS
def k_ieq (a b : Q_Id) : Bool := Nat.beq a.1 b.1 && (Nat.beq a.2.1 b.2.1 && Nat.beq a.2.2 b.2.2)
def k_fi (i : Q_Id) : List Q_Id → Nat
  | [] => 0
  | a :: L => match k_ieq a i with
    | true => 0
    | false => k_fi i L + 1
def k_px (i : Q_Id) : Nat := k_fi i k_dm
def k_ad (b : Nat) (ads : Nat → Nat) : Q_Id → Nat := fun i => if i.1 = 28 then i.2.1 else if i.1 = 26 then b else ads (k_px i)
def k_vi : List K_V → Nat → Int32
  | [], _ => 0
  | .inl x :: _, 0 => x
  | .inr _ :: _, 0 => 0
  | _ :: L, k + 1 => k_vi L k
def k_mi : Option K_E → Nat → Int32
  | some (.inl o), k => k_vi o.2 k
  | some (.inr (_, .inl L)), k => k_li L k
  | _, _ => 0
def k_mt (r p : Nat) : Nat := match Nat.beq r 11 with
  | true => (k_dm.getD p (0, 0, 0)).2.2
  | false => (k_dm.getD p (0, 0, 0)).2.1
def k_mr (r : Nat) : Option K_E → Nat → Nat
  | some (.inr (_, .inr (.inl L))), k => match k_lr L k with
    | some p => k_mt r p
    | none => 0
  | _, _ => 0
def k_M0 : Q_M := (fun r j c k => k_mi (k_EL[k_px (r, j, c)]?) k, fun r j c k => k_mr r (k_EL[k_px (r, j, c)]?) k, fun _ _ _ _ => 0)
def k_rk (i : Q_Id) (p : Nat) : Bool := Nat.beq (k_px i) p && (!(Nat.beq i.1 28) && !(Nat.beq i.1 26))
def k_cv (i : Q_Id) : List Q_S → List K_V → Bool
  | [], [] => true
  | .inl 0 :: L, .inl _ :: V => k_cv i L V
  | .inr f :: L, .inr (.inl (some p)) :: V => k_rk (f i.2.1 i.2.2) p && k_cv i L V
  | _, _ => false
def k_ck (i : Q_Id) : K_E → Bool
  | .inl o => match q_lay i.1 with
    | some r => Nat.beq o.1 r.1 && k_cv i r.2 o.2
    | none => false
  | .inr (t, .inl _) => match q_lay i.1, q_arr i.1 with
    | none, some r => Nat.beq r.1 t.1 && Nat.beq r.2 t.2
    | _, _ => false
  | .inr (t, .inr (.inl L)) => match q_lay i.1, q_arr i.1, q_rar i.1 with
    | none, none, some r => Nat.beq r.1 t.1 && (Nat.beq r.2 t.2 && (List.range t.2).all fun k => match k_lr L k with
      | some p => k_rk (q_tgi i t.1 (k_mt i.1 p)) p
      | none => false)
    | _, _, _ => false
  | .inr (t, .inr (.inr _)) => match q_lay i.1, q_arr i.1, q_rar i.1 with
    | none, none, none => Nat.beq t.1 5 && Nat.beq t.2 1
    | _, _, _ => false
theorem k_dmok : (List.range 340).all (fun k => match k_dm[k]?, k_EL[k]? with
    | some i, some e => k_rk i k && k_ck i e
    | _, _ => false) = true := by decide +kernel
theorem k_dmlen : k_dm.length = 340 ∧ k_EL.length = 340 := by decide +kernel
theorem k_ad_rk {b : Nat} {ads : Nat → Nat} {i : Q_Id} {p : Nat} (h : k_rk i p = true) : k_ad b ads i = ads p := by
  unfold k_rk at h
  simp only [Bool.and_eq_true, Bool.not_eq_true'] at h
  obtain ⟨h1, h2, h3⟩ := h
  have h1 := Nat.eq_of_beq_eq_true h1
  unfold k_ad
  rw [if_neg (fun g => by rw [g] at h2; cases h2), if_neg (fun g => by rw [g] at h3; cases h3), h1]
theorem k_cv_ok {b : Nat} {ads : Nat → Nat} {i : Q_Id} {M : Q_M} : ∀ {L : List Q_S} {V : List K_V} (n : Nat), k_cv i L V = true → (∀ k, M.1 i.1 i.2.1 i.2.2 (n + k) = k_vi V k) → L.mapIdx (fun k sl => q_e (k_ad b ads) (q_gv M i (n + k) sl)) = V.map (k_e ads)
  | [], [], _, _, _ => rfl
  | .inl 0 :: L, .inl x :: V, n, h, hm => by
    have ih := k_cv_ok (b := b) (ads := ads) (M := M) (L := L) (V := V) (n + 1) h (fun k => by rw [Nat.add_assoc, Nat.add_comm 1 k]; exact hm (k + 1))
    rw [List.mapIdx_cons, List.map_cons]
    congr 1
    · show Value.int (M.1 i.1 i.2.1 i.2.2 (n + 0)) = _
      rw [hm 0]
      rfl
    · rw [← ih]
      congr 1
      funext k sl
      rw [show n + (k + 1) = n + 1 + k by omega]
  | .inr f :: L, .inr (.inl (some p)) :: V, n, h, hm => by
    unfold k_cv at h
    rw [Bool.and_eq_true] at h
    have ih := k_cv_ok (b := b) (ads := ads) (M := M) (L := L) (V := V) (n + 1) h.2 (fun k => by rw [Nat.add_assoc, Nat.add_comm 1 k]; exact hm (k + 1))
    rw [List.mapIdx_cons, List.map_cons]
    congr 1
    · show Value.ref (k_ad b ads (f i.2.1 i.2.2)) = Value.ref (ads p)
      rw [k_ad_rk h.1]
    · rw [← ih]
      congr 1
      funext k sl
      rw [show n + (k + 1) = n + 1 + k by omega]
  | [], _ :: _, _, h, _ => by cases h
  | .inl 0 :: _, [], _, h, _ => by cases h
  | .inl (_ + 1) :: _, [], _, h, _ => by cases h
  | .inr _ :: _, [], _, h, _ => by cases h
  | .inl 0 :: _, .inr _ :: _, _, h, _ => by cases h
  | .inl (_ + 1) :: _, _ :: _, _, h, _ => by cases h
  | .inr _ :: _, .inl _ :: _, _, h, _ => by cases h
  | .inr _ :: _, .inr (.inl none) :: _, _, h, _ => by cases h
  | .inr _ :: _, .inr (.inr _) :: _, _, h, _ => by cases h
