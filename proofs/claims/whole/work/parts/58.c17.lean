def updP (P : Nat → Int) (k : Nat) (v : Int) : Nat → Int := fun j => if j = k then v else P j
def setC (T : Ch) (c : Nat) (P : Nat → Int) : Ch := fun c' => if c' = c then P else T c'
theorem setC_same (T : Ch) (c : Nat) (P : Nat → Int) : setC T c P c = P := by simp [setC]
theorem setC_ne (T : Ch) {c c' : Nat} (P : Nat → Int) (h : c' ≠ c) : setC T c P c' = T c' := by simp [setC, h]
theorem setC_self (T : Ch) (c : Nat) : setC T c (T c) = T := by
  funext c'
  unfold setC
  split
  · rename_i e; rw [e]
  · rfl
theorem upd2_setC (T : Ch) (c k : Nat) (P : Nat → Int) (v : Int) : upd2 (setC T c P) c k v = setC T c (updP P k v) := by
  funext c' j
  unfold upd2 setC updP
  by_cases e : c' = c
  · subst e; simp
  · simp [e]
theorem updP_same (P : Nat → Int) (k : Nat) (v : Int) : updP P k v k = v := by simp [updP]
theorem updP_ne (P : Nat → Int) {k j : Nat} (v : Int) (h : j ≠ k) : updP P k v j = P j := by simp [updP, h]
def clRow (rc : Nat → (Nat → Int) → Bool × (Nat → Int)) (ok : Nat → Bool) (dep : Nat) : Nat → Nat → (Nat → Int) → Bool × (Nat → Int)
  | _, 0, P => (false, P)
  | s, m + 1, P => if ok s then (if (rc s (updP P dep s)).1 then (true, (rc s (updP P dep s)).2) else clRow rc ok dep (s + 1) m (rc s (updP P dep s)).2) else clRow rc ok dep (s + 1) m P
def cl (A : Nat → Int) (n : Nat) : Nat → Nat → Nat → (Nat → Int) → Bool × (Nat → Int)
  | 0, dep, _, P => (inS (A (P (dep - 1)).toNat) (P 0).toNat, P)
  | r + 1, dep, used, P => clRow (fun s P' => cl A n r (dep + 1) (used ||| 2 ^ s) P') (fun s => (nAnd (A (P (dep - 1)).toNat).toNat used).testBit s) dep ((P 0).toNat + 1) (n - ((P 0).toNat + 1)) P
theorem clRow_keep {rc : Nat → (Nat → Int) → Bool × (Nat → Int)} {ok : Nat → Bool} {dep : Nat} (h : ∀ s P k, k < dep → (rc s P).2 k = P k) : ∀ (m s : Nat) (P : Nat → Int) (k : Nat), k < dep → (clRow rc ok dep s m P).2 k = P k
  | 0, _, _, _, _ => rfl
  | m + 1, s, P, k, hk => by
    unfold clRow
    split
    · split
      · rw [h _ _ _ hk, updP_ne _ _ (by omega)]
      · rw [clRow_keep h m (s + 1) _ k hk, h _ _ _ hk, updP_ne _ _ (by omega)]
    · exact clRow_keep h m (s + 1) P k hk
theorem cl_keep (A : Nat → Int) (n : Nat) : ∀ (r dep used : Nat) (P : Nat → Int) (k : Nat), k < dep → (cl A n r dep used P).2 k = P k
  | 0, _, _, _, _, _ => rfl
  | r + 1, dep, used, P, k, hk => by
    unfold cl
    exact clRow_keep (fun s P' k hk => cl_keep A n r (dep + 1) (used ||| 2 ^ s) P' k (by omega)) _ _ P k hk
theorem c_closes {l : Launch} {E : EnvT} {M : Mem} {T : Ch} {n : Nat} (hn : T 0 6 = n) (n8 : n ≤ 8) (hA : ∀ s, s < n → 0 ≤ T 2 s ∧ T 2 s < 256) : ∀ (r : Nat) {d : Nat} {K : AV → Mem → Prop} {dep used : Nat} {P : Nat → Int}, r + 2 ≤ d → 1 ≤ dep → dep + r ≤ n → used < 256 → (∀ k, k < dep → 0 ≤ P k ∧ P k < n) → K (.int (iN (b2i (cl (T 2) n r dep used P).1)), 0) (setR M 12 (setC T 4 (cl (T 2) n r dep used P).2)) → CT l E d m_Ties_closes [(.ref 12, 30), (.int (iN (dep : Nat)), 0), (.int (iN ((dep + r : Nat) : Int)), 0), (.int (iN (used : Nat)), 0)] (setR M 12 (setC T 4 P)) K := by
  intro r
  induction r with
  | zero =>
    intro d K dep used P hd hdep hlen hu hP h
    refine CT.of pn_Ties (Nat.le_of_ble_eq_true rfl) ?_
    refine b_Ties_closes_0 (by omega) ?_
    have p0 := hP 0 (by omega)
    have p1 := hP (dep - 1) (by omega)
    obtain ⟨a, ha⟩ : ∃ a : Nat, P (dep - 1) = a := ⟨(P (dep - 1)).toNat, (by omega)⟩
    obtain ⟨b, hb⟩ : ∃ b : Nat, P 0 = b := ⟨(P 0).toNat, (by omega)⟩
    have a1 := hA a (by omega)
    rw [iN_sub, show (dep : Int) - 1 = ((dep - 1 : Nat) : Int) by omega, setR_same, iN_clN (by omega), setC_same, ha, iN_clN (by omega), cp_0, hb, setC_ne _ _ (show 2 ≠ 4 by decide), iN_lt (by omega) (by omega) (by omega) (by omega)]
    refine ⟨iN_in (by omega) (by omega) (by omega), iN_in (by omega) (by omega) (by omega), fun c => (by omega), fun _ => ⟨iN_in (by omega) (by omega) (by omega), c_isIn (by omega) a1.1 a1.2 (by omega) ⟨bb01 _, ?_⟩⟩⟩
    unfold cl at h
    rw [ha, hb] at h
    exact h
  | succ r ih =>
    intro d K dep used P hd hdep hlen hu hP h
    refine CT.of pn_Ties (Nat.le_of_ble_eq_true rfl) ?_
    refine b_Ties_closes_0 (by omega) ?_
    have p0 := hP 0 (by omega)
    have p1 := hP (dep - 1) (by omega)
    obtain ⟨a, ha⟩ : ∃ a : Nat, P (dep - 1) = a := ⟨(P (dep - 1)).toNat, (by omega)⟩
    obtain ⟨b, hb⟩ : ∃ b : Nat, P 0 = b := ⟨(P 0).toNat, (by omega)⟩
    have a1 := hA a (by omega)
    obtain ⟨x, hx⟩ : ∃ x : Nat, T 2 a = x := ⟨(T 2 a).toNat, (by omega)⟩
    rw [iN_sub, show (dep : Int) - 1 = ((dep - 1 : Nat) : Int) by omega, setR_same, iN_clN (by omega), setC_same, ha, iN_clN (by omega), cp_0, hb, setC_ne _ _ (show 2 ≠ 4 by decide), iN_lt (by omega) (by omega) (by omega) (by omega), hx]
    refine ⟨iN_in (by omega) (by omega) (by omega), iN_in (by omega) (by omega) (by omega), fun _ => ⟨iN_in (by omega) (by omega) (by omega), ?_⟩, fun c => (by omega)⟩
    unfold cl at h
    rw [ha, hb, show ((a : Int)).toNat = a from rfl, hx, show ((b : Int)).toNat = b from rfl, show ((x : Int)).toNat = x from rfl] at h
    have key : ∀ s : Nat, s ≤ n → ∀ Q : Nat → Int, (∀ k, k < dep → Q k = P k) → clRow (fun s P' => cl (T 2) n r (dep + 1) (used ||| 2 ^ s) P') (fun s => (nAnd x used).testBit s) dep s (n - s) Q = clRow (fun s P' => cl (T 2) n r (dep + 1) (used ||| 2 ^ s) P') (fun s => (nAnd x used).testBit s) dep (b + 1) (n - (b + 1)) P → G l E d m_Ties_closes 42 [(0, (.ref 12, 30)), (1, (.int (iN dep), 0)), (2, (.int (iN ((dep + (r + 1) : Nat) : Int)), 0)), (3, (.int (iN used), 0)), (4, (.int (iN x), 0)), (5, (.int (iN s), 0))] [] (setR M 12 (setC T 4 Q)) K := by
      refine dn n (fun Q hQ he => ?_) (fun s hs ih2 Q hQ he => ?_)
      · rw [Nat.sub_self] at he
        refine b_Ties_closes_42 (by omega) ⟨fun _ => ⟨z01, ?_⟩, fun c => absurd ?_ c⟩
        · rw [← he] at h
          exact h
        · rw [setR_same, setC_ne _ _ (by decide), hn]; exact (iN_le (by omega) (by omega) (by omega) (by omega)).mpr (by omega)
      · rw [show n - s = (n - (s + 1)) + 1 by omega] at he
        generalize hR : clRow (fun s P' => cl (T 2) n r (dep + 1) (used ||| 2 ^ s) P') (fun s => (nAnd x used).testBit s) dep (b + 1) (n - (b + 1)) P = R at h he ih2
        unfold clRow at he
        have nl := nAnd_lt used (show x < 256 by omega)
        refine b_Ties_closes_42 (by omega) ⟨fun c => absurd c ?_, fun _ => ?_⟩
        · rw [setR_same, setC_ne _ _ (by decide), hn, iN_le (by omega) (by omega) (by omega) (by omega)]; omega
        · rw [and_not x (by omega) used hu]
          refine c_isIn (by omega) (by omega) (by omega) (s := s) (by omega) ?_
          rw [toI_int, b2i_z, inS_nat, iN_add]
          refine ⟨fun c => ih2 Q hQ ?_, fun c => ⟨iN_in (by omega) (by omega) (by omega), ?_⟩⟩
          · rw [c, if_neg (by simp)] at he; exact he
          · rw [Bool.not_eq_false] at c
            rw [c, if_pos rfl] at he
            have u2 : used ||| 2 ^ s < 256 := or_lt hu (pow_lt (by omega))
            rw [iN_clN (by omega), upd3_setR, setR_same, setR_setR, upd2_setC, iNn_toI (by omega), or_bit (by omega) (by omega) (by omega), setB_nat, iN_add, show (dep : Int) + 1 = ((dep + 1 : Nat) : Int) by omega, show dep + (r + 1) = (dep + 1) + r by omega]
            have hQ2 : ∀ k, k < dep + 1 → 0 ≤ updP Q dep s k ∧ updP Q dep s k < n := by
              intro k hk
              by_cases e : k = dep
              · subst e; rw [updP_same]; omega
              · rw [updP_ne _ _ e, hQ k (by omega)]; exact hP k (by omega)
            refine ih (by omega) (by omega) (by omega) u2 hQ2 ?_
            rw [toI_int, b2i_z]
            refine ⟨fun c2 => ?_, fun c2 => ⟨o01, ?_⟩⟩
            · rw [if_neg (by simp [c2])] at he
              rw [show dep + 1 + r = dep + (r + 1) by omega]
              refine ih2 _ (fun k hk => ?_) he
              rw [cl_keep (T 2) n r (dep + 1) _ _ k (by omega), updP_ne _ _ (by omega), hQ k hk]
            · rw [Bool.not_eq_false] at c2
              rw [if_pos c2] at he
              rw [← he] at h
              exact h
    rw [iN_add, show (b : Int) + 1 = ((b + 1 : Nat) : Int) by omega]
    exact key (b + 1) (by omega) P (fun _ _ => rfl) rfl
def frS (A : Nat → Int) (n len : Nat) : Nat → Nat → (Nat → Int) → Bool × (Nat → Int)
  | _, 0, P => (false, P)
  | s, m + 1, P => if (cl A n (len - 1) 1 (2 ^ s) (updP P 0 s)).1 then (true, (cl A n (len - 1) 1 (2 ^ s) (updP P 0 s)).2) else frS A n len (s + 1) m (cl A n (len - 1) 1 (2 ^ s) (updP P 0 s)).2
def frL (A : Nat → Int) (n : Nat) : Nat → Nat → (Nat → Int) → Int × (Nat → Int)
  | _, 0, P => (0, P)
  | len, m + 1, P => if (frS A n len 0 n P).1 then ((len : Int), (frS A n len 0 n P).2) else frL A n (len + 1) m (frS A n len 0 n P).2
theorem c_findRound {l : Launch} {E : EnvT} {d : Nat} {K : AV → Mem → Prop} {M : Mem} {T : Ch} {n : Nat} (hd : 11 ≤ d) (hn : T 0 6 = n) (n8 : n ≤ 8) (hA : ∀ s, s < n → 0 ≤ T 2 s ∧ T 2 s < 256) (h : K (.int (iN (frL (T 2) n 3 (n - 2) (T 4)).1), 0) (setR M 12 (setC T 4 (frL (T 2) n 3 (n - 2) (T 4)).2))) : CT l E d m_Ties_findRound [(.ref 12, 30)] (setR M 12 T) K := by
  refine CT.of pn_Ties (Nat.le_of_ble_eq_true rfl) ?_
  refine b_Ties_findRound_0 (by omega) ?_
  rw [show setR M 12 T = setR M 12 (setC T 4 (T 4)) by rw [setC_self]]
  have outer : ∀ m : Nat, ∀ len : Nat, 3 ≤ len → len + m = max 3 (n + 1) → ∀ P : Nat → Int, frL (T 2) n len m P = frL (T 2) n 3 (n - 2) (T 4) → G l E d m_Ties_findRound 2 [(0, (.ref 12, 30)), (1, (.int (iN len), 0))] [] (setR M 12 (setC T 4 P)) K := by
    intro m
    induction m with
    | zero =>
      intro len l3 lm P he
      refine b_Ties_findRound_2 (by omega) ⟨fun _ => ?_, fun c => absurd ?_ c⟩
      · rw [← he] at h
        exact h
      · rw [setR_same, setC_ne _ _ (by decide), hn, iN_lt (by omega) (by omega) (by omega) (by omega)]; omega
    | succ m ih =>
      intro len l3 lm P he
      generalize hR : frL (T 2) n 3 (n - 2) (T 4) = R at h he ih
      unfold frL at he
      refine b_Ties_findRound_2 (by omega) ⟨fun c => absurd c ?_, fun _ => ?_⟩
      · rw [setR_same, setC_ne _ _ (by decide), hn, iN_lt (by omega) (by omega) (by omega) (by omega)]; omega
      · have inner : ∀ s : Nat, s ≤ n → ∀ Q : Nat → Int, frS (T 2) n len s (n - s) Q = frS (T 2) n len 0 n P → G l E d m_Ties_findRound 12 [(0, (.ref 12, 30)), (1, (.int (iN len), 0)), (2, (.int (iN s), 0))] [] (setR M 12 (setC T 4 Q)) K := by
          refine dn n (fun Q hq => ?_) (fun s hs ih2 Q hq => ?_)
          · rw [Nat.sub_self] at hq
            have hq : (false, Q) = frS (T 2) n len 0 n P := hq
            refine b_Ties_findRound_12 (by omega) ⟨fun _ => ?_, fun c => absurd ?_ c⟩
            · rw [← hq, if_neg (by simp)] at he
              rw [iN_add, show (len : Int) + 1 = ((len + 1 : Nat) : Int) by omega]
              exact ih (len + 1) (by omega) (by omega) Q he
            · rw [setR_same, setC_ne _ _ (by decide), hn]; exact (iN_le (by omega) (by omega) (by omega) (by omega)).mpr (by omega)
          · rw [show n - s = (n - (s + 1)) + 1 by omega] at hq
            generalize hS : frS (T 2) n len 0 n P = S at he hq ih2
            unfold frS at hq
            refine b_Ties_findRound_12 (by omega) ⟨fun c => absurd c ?_, fun _ => ⟨iN_in (by omega) (by omega) (by omega), ?_⟩⟩
            · rw [setR_same, setC_ne _ _ (by decide), hn, iN_le (by omega) (by omega) (by omega) (by omega)]; omega
            · rw [cp_0, upd3_setR, setR_same, setR_setR, upd2_setC, iNn_toI (by omega), one_bit s (by omega)]
              have := c_closes (l := l) (E := E) (M := M) hn n8 hA (len - 1) (d := d - 1) (dep := 1) (used := 2 ^ s) (P := updP Q 0 s) (K := fun v1 M1 => (toI v1 = 0 → G l E d m_Ties_findRound 12 [(0, (.ref 12, 30)), (1, (.int (iN len), 0)), (2, (.int (iN s + iN 1), 0))] [] M1 K) ∧ (¬ toI v1 = 0 → K (.int (iN len), 0) M1)) (by omega) (by omega) (by omega) (pow_lt (by omega)) (fun k hk => by
                have : k = 0 := by omega
                subst this
                rw [updP_same]; omega) ?_
              · rw [show 1 + (len - 1) = len by omega] at this
                exact this
              · show (toI (.int (iN (b2i (cl (T 2) n (len - 1) 1 (2 ^ s) (updP Q 0 s)).1)), 0) = 0 → _) ∧ (¬ toI (.int (iN (b2i (cl (T 2) n (len - 1) 1 (2 ^ s) (updP Q 0 s)).1)), 0) = 0 → _)
                rw [toI_int, b2i_z, iN_add]
                refine ⟨fun c => ih2 _ ?_, fun c => ?_⟩
                · rw [if_neg (by simp [c])] at hq; exact hq
                · rw [Bool.not_eq_false] at c
                  rw [if_pos c] at hq
                  rw [← hq, if_pos rfl] at he
                  rw [← he] at h
                  exact h
        exact inner 0 (by omega) P rfl
  exact outer (n - 2) 3 (by omega) (by omega) (T 4) rfl
