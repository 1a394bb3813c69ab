theorem lkE (C : Ch) (n : Nat) : ∃ T : Ch, LK T C n := by
  refine ⟨fun c k => if c = 0 then (if k = 6 then (n : Int) else (livM C n : Nat)) else if c = 1 then balC C k else if c = 2 then (msk (lkN C k) n : Nat) else (msk (lkA C k) n : Nat), ?_, ?_, fun a ha => ⟨?_, ?_, ?_⟩⟩ <;> simp
theorem i_told {l : Launch} {E : EnvT} {d : Nat} {M : Mem} {Z : Ch} {A : Nat → Int} {a : Int} (hd : 20 ≤ d) (iv : IV M Z A) (a1 : -2147483648 ≤ a) (a2 : a < 2147483648): CT l E d m_FN_told [(.ref 0, 0), (.int (iN a), 0)] (zA M Z A) (fun v1 M1 => CT l E d m_Mod_told [(.ref 24, 41), (.int (iN a), 0)] M1 (fun v2 M2 => PST v1 v2 M2)) := by
  obtain ⟨rc, rs, ry, rz, hf, hc, hs, ht, hl, hr, hk⟩ := id iv
  have f5 := hf.2.1
  have f6 := hf.2.2.1
  have er : zA M Z A rc = M rc := zA_r M Z A (by omega)
  have fc := hf.fc hc
  have hB := hs.2.1
  have hW := hc.1
  have hV := hW.1
  have hR := hc.2.1
  refine c_told (by omega) fc a1 a2 ?_
  rw [er, zA_st]
  exact x_told (by omega) hB hW hR a1 a2 ⟨rfl, _, _, _, rfl, iv.st _⟩
theorem i_singer {l : Launch} {E : EnvT} {d : Nat} {M : Mem} {Z : Ch} {A : Nat → Int} {a b : Int} (hd : 20 ≤ d) (iv : IV M Z A) (a1 : -2147483648 ≤ a) (a2 : a < 2147483648) (b1 : -2147483648 ≤ b) (b2 : b < 2147483648): CT l E d m_FN_singer [(.ref 0, 0), (.int (iN a), 0), (.int (iN b), 0)] (zA M Z A) (fun v1 M1 => CT l E d m_Mod_singer [(.ref 24, 41), (.int (iN a), 0), (.int (iN b), 0)] M1 (fun v2 M2 => PST v1 v2 M2)) := by
  obtain ⟨rc, rs, ry, rz, hf, hc, hs, ht, hl, hr, hk⟩ := id iv
  have f5 := hf.2.1
  have f6 := hf.2.2.1
  have er : zA M Z A rc = M rc := zA_r M Z A (by omega)
  have fc := hf.fc hc
  have hB := hs.2.1
  have hW := hc.1
  have hV := hW.1
  have hR := hc.2.1
  refine c_singer (by omega) fc a1 a2 b1 b2 ?_
  rw [er, zA_st]
  exact x_singer (by omega) hB hW hR a1 a2 b1 b2 ⟨rfl, _, _, _, rfl, iv.st _⟩
theorem i_line {l : Launch} {E : EnvT} {d : Nat} {M : Mem} {Z : Ch} {A : Nat → Int} {a b : Int} (hd : 20 ≤ d) (iv : IV M Z A) (a1 : -2147483648 ≤ a) (a2 : a < 2147483648) (b1 : -2147483648 ≤ b) (b2 : b < 2147483648): CT l E d m_FN_line [(.ref 0, 0), (.int (iN a), 0), (.int (iN b), 0)] (zA M Z A) (fun v1 M1 => CT l E d m_Mod_line [(.ref 24, 41), (.int (iN a), 0), (.int (iN b), 0)] M1 (fun v2 M2 => PST v1 v2 M2)) := by
  obtain ⟨rc, rs, ry, rz, hf, hc, hs, ht, hl, hr, hk⟩ := id iv
  have f5 := hf.2.1
  have f6 := hf.2.2.1
  have er : zA M Z A rc = M rc := zA_r M Z A (by omega)
  have fc := hf.fc hc
  have hB := hs.2.1
  have hW := hc.1
  have hV := hW.1
  have hR := hc.2.1
  refine c_line (by omega) fc a1 a2 b1 b2 ?_
  rw [er, zA_st]
  exact x_line (by omega) hB hV hR a1 a2 b1 b2 ⟨rfl, _, _, _, rfl, iv.st _⟩
theorem i_owed {l : Launch} {E : EnvT} {d : Nat} {M : Mem} {Z : Ch} {A : Nat → Int} {a b : Int} (hd : 20 ≤ d) (iv : IV M Z A) (a1 : -2147483648 ≤ a) (a2 : a < 2147483648) (b1 : -2147483648 ≤ b) (b2 : b < 2147483648): CT l E d m_FN_owed [(.ref 0, 0), (.int (iN a), 0), (.int (iN b), 0)] (zA M Z A) (fun v1 M1 => CT l E d m_Mod_owed [(.ref 24, 41), (.int (iN a), 0), (.int (iN b), 0)] M1 (fun v2 M2 => PST v1 v2 M2)) := by
  obtain ⟨rc, rs, ry, rz, hf, hc, hs, ht, hl, hr, hk⟩ := id iv
  have f5 := hf.2.1
  have f6 := hf.2.2.1
  have er : zA M Z A rc = M rc := zA_r M Z A (by omega)
  have fc := hf.fc hc
  have hB := hs.2.1
  have hW := hc.1
  have hV := hW.1
  have hR := hc.2.1
  refine c_owed (by omega) fc a1 a2 b1 b2 ?_
  rw [er, zA_st]
  exact x_owed (by omega) hB hV hR a1 a2 b1 b2 ⟨rfl, _, _, _, rfl, iv.st _⟩
theorem i_waiting {l : Launch} {E : EnvT} {d : Nat} {M : Mem} {Z : Ch} {A : Nat → Int} {a b : Int} (hd : 20 ≤ d) (iv : IV M Z A) (a1 : -2147483648 ≤ a) (a2 : a < 2147483648) (b1 : -2147483648 ≤ b) (b2 : b < 2147483648): CT l E d m_FN_waiting [(.ref 0, 0), (.int (iN a), 0), (.int (iN b), 0)] (zA M Z A) (fun v1 M1 => CT l E d m_Mod_waiting [(.ref 24, 41), (.int (iN a), 0), (.int (iN b), 0)] M1 (fun v2 M2 => PST v1 v2 M2)) := by
  obtain ⟨rc, rs, ry, rz, hf, hc, hs, ht, hl, hr, hk⟩ := id iv
  have f5 := hf.2.1
  have f6 := hf.2.2.1
  have er : zA M Z A rc = M rc := zA_r M Z A (by omega)
  have fc := hf.fc hc
  have hB := hs.2.1
  have hW := hc.1
  have hV := hW.1
  have hR := hc.2.1
  refine c_waitingQ (by omega) fc a1 a2 b1 b2 ?_
  rw [er, zA_st]
  exact x_waiting (by omega) hV hR a1 a2 b1 b2 ⟨rfl, _, _, _, rfl, iv.st _⟩
theorem i_balance {l : Launch} {E : EnvT} {d : Nat} {M : Mem} {Z : Ch} {A : Nat → Int} {a : Int} (hd : 20 ≤ d) (iv : IV M Z A) (a1 : -2147483648 ≤ a) (a2 : a < 2147483648): CT l E d m_FN_balance [(.ref 0, 0), (.int (iN a), 0)] (zA M Z A) (fun v1 M1 => CT l E d m_Mod_balance [(.ref 24, 41), (.int (iN a), 0)] M1 (fun v2 M2 => PST v1 v2 M2)) := by
  obtain ⟨rc, rs, ry, rz, hf, hc, hs, ht, hl, hr, hk⟩ := id iv
  have f5 := hf.2.1
  have f6 := hf.2.2.1
  have er : zA M Z A rc = M rc := zA_r M Z A (by omega)
  have fc := hf.fc hc
  have hB := hs.2.1
  have hW := hc.1
  have hV := hW.1
  have hR := hc.2.1
  refine c_balance (by omega) fc a1 a2 ?_
  rw [er, zA_st]
  exact x_balance (by omega) hB hW hR a1 a2 ⟨rfl, _, _, _, rfl, iv.st _⟩
theorem i_free {l : Launch} {E : EnvT} {d : Nat} {M : Mem} {Z : Ch} {A : Nat → Int} {a : Int} (hd : 20 ≤ d) (iv : IV M Z A) (a1 : -2147483648 ≤ a) (a2 : a < 2147483648): CT l E d m_FN_free [(.ref 0, 0), (.int (iN a), 0)] (zA M Z A) (fun v1 M1 => CT l E d m_Mod_free [(.ref 24, 41), (.int (iN a), 0)] M1 (fun v2 M2 => PST v1 v2 M2)) := by
  obtain ⟨rc, rs, ry, rz, hf, hc, hs, ht, hl, hr, hk⟩ := id iv
  have f5 := hf.2.1
  have f6 := hf.2.2.1
  have er : zA M Z A rc = M rc := zA_r M Z A (by omega)
  have fc := hf.fc hc
  have hB := hs.2.1
  have hW := hc.1
  have hV := hW.1
  have hR := hc.2.1
  refine c_freeQ (by omega) fc a1 a2 ?_
  rw [er, zA_st]
  exact x_free (by omega) hB hV hR a1 a2 ⟨rfl, _, _, _, rfl, iv.st _⟩
theorem i_queue {l : Launch} {E : EnvT} {d : Nat} {M : Mem} {Z : Ch} {A : Nat → Int} {a : Int} (hd : 20 ≤ d) (iv : IV M Z A) (a1 : -2147483648 ≤ a) (a2 : a < 2147483648): CT l E d m_FN_queue [(.ref 0, 0), (.int (iN a), 0)] (zA M Z A) (fun v1 M1 => CT l E d m_Mod_queue [(.ref 24, 41), (.int (iN a), 0)] M1 (fun v2 M2 => PST v1 v2 M2)) := by
  obtain ⟨rc, rs, ry, rz, hf, hc, hs, ht, hl, hr, hk⟩ := id iv
  have f5 := hf.2.1
  have f6 := hf.2.2.1
  have er : zA M Z A rc = M rc := zA_r M Z A (by omega)
  have fc := hf.fc hc
  have hB := hs.2.1
  have hW := hc.1
  have hV := hW.1
  have hR := hc.2.1
  refine c_queue (by omega) fc a1 a2 ?_
  rw [er, zA_st]
  exact x_queue (by omega) hB hV hR a1 a2 ⟨rfl, _, _, _, rfl, iv.st _⟩
theorem i_grows {l : Launch} {E : EnvT} {d : Nat} {M : Mem} {Z : Ch} {A : Nat → Int} {a b : Int} (hd : 20 ≤ d) (iv : IV M Z A) (a1 : -2147483648 ≤ a) (a2 : a < 2147483648) (b1 : -2147483648 ≤ b) (b2 : b < 2147483648): CT l E d m_FN_grows [(.ref 0, 0), (.int (iN a), 0), (.int (iN b), 0)] (zA M Z A) (fun v1 M1 => CT l E d m_Mod_grows [(.ref 24, 41), (.int (iN a), 0), (.int (iN b), 0)] M1 (fun v2 M2 => PST v1 v2 M2)) := by
  obtain ⟨rc, rs, ry, rz, hf, hc, hs, ht, hl, hr, hk⟩ := id iv
  have f5 := hf.2.1
  have f6 := hf.2.2.1
  have er : zA M Z A rc = M rc := zA_r M Z A (by omega)
  have fc := hf.fc hc
  have hB := hs.2.1
  have hW := hc.1
  have hV := hW.1
  have hR := hc.2.1
  refine c_growsQ (by omega) fc a1 a2 b1 b2 ?_
  rw [er, zA_st]
  exact x_grows (by omega) hV hR a1 a2 b1 b2 ⟨rfl, _, _, _, rfl, iv.st _⟩
theorem i_owedIn {l : Launch} {E : EnvT} {d : Nat} {M : Mem} {Z : Ch} {A : Nat → Int} {a : Int} (hd : 20 ≤ d) (iv : IV M Z A) (a1 : -2147483648 ≤ a) (a2 : a < 2147483648): CT l E d m_FN_owedIn [(.ref 0, 0), (.int (iN a), 0)] (zA M Z A) (fun v1 M1 => CT l E d m_Mod_owedIn [(.ref 24, 41), (.int (iN a), 0)] M1 (fun v2 M2 => PST v1 v2 M2)) := by
  obtain ⟨rc, rs, ry, rz, hf, hc, hs, ht, hl, hr, hk⟩ := id iv
  have f5 := hf.2.1
  have f6 := hf.2.2.1
  have er : zA M Z A rc = M rc := zA_r M Z A (by omega)
  have fc := hf.fc hc
  have hB := hs.2.1
  have hW := hc.1
  have hV := hW.1
  have hR := hc.2.1
  refine c_owedInQ (by omega) fc a1 a2 ?_
  rw [er, zA_st]
  exact x_owedIn (by omega) hB hW hR a1 a2 ⟨rfl, _, _, _, rfl, iv.st _⟩
theorem i_shorts {l : Launch} {E : EnvT} {d : Nat} {M : Mem} {Z : Ch} {A : Nat → Int} (hd : 20 ≤ d) (iv : IV M Z A) : CT l E d m_FN_shorts [(.ref 0, 0)] (zA M Z A) (fun v1 M1 => CT l E d m_Mod_shorts [(.ref 24, 41)] M1 (fun v2 M2 => PST v1 v2 M2)) := by
  obtain ⟨rc, rs, ry, rz, hf, hc, hs, ht, hl, hr, hk⟩ := id iv
  have f5 := hf.2.1
  have f6 := hf.2.2.1
  have er : zA M Z A rc = M rc := zA_r M Z A (by omega)
  have fc := hf.fc hc
  have hB := hs.2.1
  have hW := hc.1
  have hV := hW.1
  have hR := hc.2.1
  refine c_shortsQ (by omega) fc  ?_
  rw [er, zA_st]
  exact x_shorts (by omega) hB hW hR  ⟨rfl, _, _, _, rfl, iv.st _⟩
theorem i_lacking {l : Launch} {E : EnvT} {d : Nat} {M : Mem} {Z : Ch} {A : Nat → Int} (hd : 20 ≤ d) (iv : IV M Z A) : CT l E d m_FN_lacking [(.ref 0, 0)] (zA M Z A) (fun v1 M1 => CT l E d m_Mod_lacking [(.ref 24, 41)] M1 (fun v2 M2 => PST v1 v2 M2)) := by
  obtain ⟨rc, rs, ry, rz, hf, hc, hs, ht, hl, hr, hk⟩ := id iv
  have f5 := hf.2.1
  have f6 := hf.2.2.1
  have er : zA M Z A rc = M rc := zA_r M Z A (by omega)
  have fc := hf.fc hc
  have hB := hs.2.1
  have hW := hc.1
  have hV := hW.1
  have hR := hc.2.1
  refine c_lackingQ (by omega) fc  ?_
  rw [er, zA_st]
  exact x_lacking (by omega) hB hW hR  ⟨rfl, _, _, _, rfl, iv.st _⟩
theorem i_richest {l : Launch} {E : EnvT} {d : Nat} {M : Mem} {Z : Ch} {A : Nat → Int} (hd : 20 ≤ d) (iv : IV M Z A) : CT l E d m_FN_richest [(.ref 0, 0)] (zA M Z A) (fun v1 M1 => CT l E d m_Mod_richest [(.ref 24, 41)] M1 (fun v2 M2 => PST v1 v2 M2)) := by
  obtain ⟨rc, rs, ry, rz, hf, hc, hs, ht, hl, hr, hk⟩ := id iv
  have f5 := hf.2.1
  have f6 := hf.2.2.1
  have er : zA M Z A rc = M rc := zA_r M Z A (by omega)
  have fc := hf.fc hc
  have hB := hs.2.1
  have hW := hc.1
  have hV := hW.1
  have hR := hc.2.1
  refine c_richestQ (by omega) fc  ?_
  rw [er, zA_st]
  exact x_richest (by omega) hB hW hR  ⟨rfl, _, _, _, rfl, iv.st _⟩
theorem i_deepest {l : Launch} {E : EnvT} {d : Nat} {M : Mem} {Z : Ch} {A : Nat → Int} (hd : 20 ≤ d) (iv : IV M Z A) : CT l E d m_FN_deepest [(.ref 0, 0)] (zA M Z A) (fun v1 M1 => CT l E d m_Mod_deepest [(.ref 24, 41)] M1 (fun v2 M2 => PST v1 v2 M2)) := by
  obtain ⟨rc, rs, ry, rz, hf, hc, hs, ht, hl, hr, hk⟩ := id iv
  have f5 := hf.2.1
  have f6 := hf.2.2.1
  have er : zA M Z A rc = M rc := zA_r M Z A (by omega)
  have fc := hf.fc hc
  have hB := hs.2.1
  have hW := hc.1
  have hV := hW.1
  have hR := hc.2.1
  refine c_deepestQ (by omega) fc  ?_
  rw [er, zA_st]
  exact x_deepest (by omega) hB hW hR  ⟨rfl, _, _, _, rfl, iv.st _⟩
theorem i_roomiest {l : Launch} {E : EnvT} {d : Nat} {M : Mem} {Z : Ch} {A : Nat → Int} (hd : 20 ≤ d) (iv : IV M Z A) : CT l E d m_FN_roomiest [(.ref 0, 0)] (zA M Z A) (fun v1 M1 => CT l E d m_Mod_roomiest [(.ref 24, 41)] M1 (fun v2 M2 => PST v1 v2 M2)) := by
  obtain ⟨rc, rs, ry, rz, hf, hc, hs, ht, hl, hr, hk⟩ := id iv
  have f5 := hf.2.1
  have f6 := hf.2.2.1
  have er : zA M Z A rc = M rc := zA_r M Z A (by omega)
  have fc := hf.fc hc
  have hB := hs.2.1
  have hW := hc.1
  have hV := hW.1
  have hR := hc.2.1
  refine c_roomiestQ (by omega) fc  ?_
  rw [er, zA_st]
  exact x_roomiest (by omega) hB hW hR  ⟨rfl, _, _, _, rfl, iv.st _⟩
theorem i_status {l : Launch} {E : EnvT} {d : Nat} {M : Mem} {Z : Ch} {A : Nat → Int} (hd : 20 ≤ d) (iv : IV M Z A) : CT l E d m_FN_status [(.ref 0, 0)] (zA M Z A) (fun v1 M1 => CT l E d m_Mod_status [(.ref 24, 41)] M1 (fun v2 M2 => PST v1 v2 M2)) := by
  obtain ⟨rc, rs, ry, rz, hf, hc, hs, ht, hl, hr, hk⟩ := id iv
  have f5 := hf.2.1
  have f6 := hf.2.2.1
  have er : zA M Z A rc = M rc := zA_r M Z A (by omega)
  have fc := hf.fc hc
  have hB := hs.2.1
  have hW := hc.1
  have hV := hW.1
  have hR := hc.2.1
  refine c_status (by omega) (r_status (by omega) ⟨?_, M, Z, A, rfl, iv⟩)
  rw [zA_r M Z A (by decide), hs.1.1]
theorem i_top {l : Launch} {E : EnvT} {d : Nat} {M : Mem} {Z : Ch} {A : Nat → Int} (hd : 20 ≤ d) (iv : IV M Z A) : CT l E d m_FN_top [(.ref 0, 0)] (zA M Z A) (fun v1 M1 => CT l E d m_Mod_top [(.ref 24, 41)] M1 (fun v2 M2 => PST v1 v2 M2)) := by
  obtain ⟨rc, rs, ry, rz, hf, hc, hs, ht, hl, hr, hk⟩ := id iv
  have f5 := hf.2.1
  have f6 := hf.2.2.1
  have er : zA M Z A rc = M rc := zA_r M Z A (by omega)
  have fc := hf.fc hc
  have hB := hs.2.1
  have hW := hc.1
  have hV := hW.1
  have hR := hc.2.1
  refine c_top (by omega) (r_top (by omega) ⟨?_, M, Z, A, rfl, iv⟩)
  rw [zA_r M Z A (by decide), hs.1.2.1]
theorem i_bottom {l : Launch} {E : EnvT} {d : Nat} {M : Mem} {Z : Ch} {A : Nat → Int} (hd : 20 ≤ d) (iv : IV M Z A) : CT l E d m_FN_bottom [(.ref 0, 0)] (zA M Z A) (fun v1 M1 => CT l E d m_Mod_bottom [(.ref 24, 41)] M1 (fun v2 M2 => PST v1 v2 M2)) := by
  obtain ⟨rc, rs, ry, rz, hf, hc, hs, ht, hl, hr, hk⟩ := id iv
  have f5 := hf.2.1
  have f6 := hf.2.2.1
  have er : zA M Z A rc = M rc := zA_r M Z A (by omega)
  have fc := hf.fc hc
  have hB := hs.2.1
  have hW := hc.1
  have hV := hW.1
  have hR := hc.2.1
  refine c_bottom (by omega) (r_bottom (by omega) ⟨?_, M, Z, A, rfl, iv⟩)
  rw [zA_r M Z A (by decide), hs.1.2.2.1]
theorem i_fault {l : Launch} {E : EnvT} {d : Nat} {M : Mem} {Z : Ch} {A : Nat → Int} {a : Int} (hd : 20 ≤ d) (iv : IV M Z A) (a1 : -2147483648 ≤ a) (a2 : a < 2147483648): CT l E d m_FN_fault [(.ref 0, 0), (.int (iN a), 0)] (zA M Z A) (fun v1 M1 => CT l E d m_Mod_fault [(.ref 24, 41), (.int (iN a), 0)] M1 (fun v2 M2 => PST v1 v2 M2)) := by
  obtain ⟨rc, rs, ry, rz, hf, hc, hs, ht, hl, hr, hk⟩ := id iv
  have f5 := hf.2.1
  have f6 := hf.2.2.1
  have er : zA M Z A rc = M rc := zA_r M Z A (by omega)
  have fc := hf.fc hc
  have hB := hs.2.1
  have hW := hc.1
  have hV := hW.1
  have hR := hc.2.1
  refine c_fault (by omega) a1 a2 (r_fault (by omega) a1 a2 ⟨?_, M, Z, A, rfl, iv⟩)
  rw [zA_r M Z A (by decide), hs.1.2.2.2.1, hs.1.2.2.2.2]
theorem i_held {l : Launch} {E : EnvT} {d : Nat} {M : Mem} {Z : Ch} {A : Nat → Int} {a b z : Int} (hd : 20 ≤ d) (iv : IV M Z A) (a1 : -2147483648 ≤ a) (a2 : a < 2147483648) (b1 : -2147483648 ≤ b) (b2 : b < 2147483648) (z1 : -2147483648 ≤ z) (z2 : z < 2147483648): CT l E d m_FN_held [(.ref 0, 0), (.int (iN a), 0), (.int (iN b), 0), (.int (iN z), 0)] (zA M Z A) (fun v1 M1 => CT l E d m_Mod_held [(.ref 24, 41), (.int (iN a), 0), (.int (iN b), 0), (.int (iN z), 0)] M1 (fun v2 M2 => PST v1 v2 M2)) := by
  obtain ⟨rc, rs, ry, rz, hf, hc, hs, ht, hl, hr, hk⟩ := id iv
  have f5 := hf.2.1
  have f6 := hf.2.2.1
  have er : zA M Z A rc = M rc := zA_r M Z A (by omega)
  have fc := hf.fc hc
  have hB := hs.2.1
  have hW := hc.1
  have hV := hW.1
  have hR := hc.2.1
  refine c_heldQ (by omega) fc a1 a2 b1 b2 z1 z2 (fun c => ?_) (fun s k e1 e2 c q1 q2 => ?_)
  · rw [er] at c
    rw [zA_st]
    exact x_held (by omega) hB hV hR a1 a2 b1 b2 z1 z2 (fun _ => ⟨rfl, _, _, _, rfl, iv.st _⟩) (fun s k e1 e2 c2 q1 q2 => absurd ⟨c2, q1, q2⟩ c)
  · rw [er] at c
    have nb : (0 ≤ a ∧ a < M rc 0 8) ∧ (0 ≤ b ∧ b < M rc 4 a.toNat) := by
      unfold noteB knowsB at c
      rw [Bool.and_eq_true] at c
      exact ⟨of_decide_eq_true c.1, of_decide_eq_true c.2⟩
    have hn := hV.n
    have hle := hV.le s (by omega)
    have k6 : k < 6 := by
      have := nb.2
      rw [e1, e2, show ((s : Int)).toNat = s from rfl] at this
      omega
    subst e1
    subst e2
    refine ⟨by omega, k6, fun c3 => ?_, fun c3 => ?_⟩
    · rw [er] at c3
      rw [zA_st]
      refine x_held (by omega) hB hV hR a1 a2 b1 b2 z1 z2 (fun c4 => absurd ⟨c, q1, q2⟩ c4) (fun s2 k2 e3 e4 c2 q3 q4 => ?_)
      have x1 : s2 = s := (by omega)
      have x2 : k2 = k := (by omega)
      subst x1
      subst x2
      exact ⟨fun _ => ⟨rfl, _, _, _, rfl, iv.st _⟩, fun c4 => absurd c3 c4⟩
    · rw [er] at c3 ⊢
      rw [zA_st]
      refine x_held (by omega) hB hV hR a1 a2 b1 b2 z1 z2 (fun c4 => absurd ⟨c, q1, q2⟩ c4) (fun s2 k2 e3 e4 c2 q3 q4 => ?_)
      have x1 : s2 = s := (by omega)
      have x2 : k2 = k := (by omega)
      subst x1
      subst x2
      exact ⟨fun c4 => absurd c4 c3, fun _ => ⟨rfl, _, _, _, rfl, iv.st _⟩⟩
theorem i_sung {l : Launch} {E : EnvT} {d : Nat} {M : Mem} {Z : Ch} {A : Nat → Int} {a b : Int} (hd : 20 ≤ d) (iv : IV M Z A) (a1 : -2147483648 ≤ a) (a2 : a < 2147483648) (b1 : -2147483648 ≤ b) (b2 : b < 2147483648): CT l E d m_FN_sung [(.ref 0, 0), (.int (iN a), 0), (.int (iN b), 0)] (zA M Z A) (fun v1 M1 => CT l E d m_Mod_sung [(.ref 24, 41), (.int (iN a), 0), (.int (iN b), 0)] M1 (fun v2 M2 => PST v1 v2 M2)) := by
  obtain ⟨rc, rs, ry, rz, hf, hc, hs, ht, hl, hr, hk⟩ := id iv
  have f5 := hf.2.1
  have f6 := hf.2.2.1
  have er : zA M Z A rc = M rc := zA_r M Z A (by omega)
  have fc := hf.fc hc
  have hB := hs.2.1
  have hW := hc.1
  have hV := hW.1
  have hR := hc.2.1
  refine c_sungQ (by omega) fc a1 a2 b1 b2 (fun c => ?_) (fun c c2 => ?_)
  · rw [er] at c
    rw [zA_st]
    exact x_sung (by omega) hB hV hR a1 a2 b1 b2 (fun _ => ⟨rfl, _, _, _, rfl, iv.st _⟩) (fun c2 c3 => absurd ⟨c2, c3⟩ c)
  · rw [er] at c c2 ⊢
    rw [zA_st]
    exact x_sung (by omega) hB hV hR a1 a2 b1 b2 (fun c3 => absurd ⟨c, c2⟩ c3) (fun _ _ => ⟨rfl, _, _, _, rfl, iv.st _⟩)
theorem i_falsest {l : Launch} {E : EnvT} {d : Nat} {M : Mem} {Z : Ch} {A : Nat → Int} {a : Int} (hd : 20 ≤ d) (iv : IV M Z A) (a1 : -2147483648 ≤ a) (a2 : a < 2147483648): CT l E d m_FN_falsest [(.ref 0, 0), (.int (iN a), 0)] (zA M Z A) (fun v1 M1 => CT l E d m_Mod_falsest [(.ref 24, 41), (.int (iN a), 0)] M1 (fun v2 M2 => PST v1 v2 M2)) := by
  obtain ⟨rc, rs, ry, rz, hf, hc, hs, ht, hl, hr, hk⟩ := id iv
  have f5 := hf.2.1
  have f6 := hf.2.2.1
  have er : zA M Z A rc = M rc := zA_r M Z A (by omega)
  have fc := hf.fc hc
  have hB := hs.2.1
  have hW := hc.1
  have hV := hW.1
  have hR := hc.2.1
  refine c_falsestQ (by omega) fc a1 a2 (fun c => ?_) (fun c => ?_)
  · rw [er] at c
    rw [zA_st]
    exact x_falsest (by omega) hB hV hR a1 a2 (fun _ => ⟨rfl, _, _, _, rfl, iv.st _⟩) (fun c2 => by rw [c] at c2; cases c2)
  · rw [er] at c ⊢
    rw [zA_st]
    exact x_falsest (by omega) hB hV hR a1 a2 (fun c2 => by rw [c] at c2; cases c2) (fun _ => ⟨rfl, _, _, _, rfl, iv.st _⟩)
theorem i_whose {l : Launch} {E : EnvT} {d : Nat} {M : Mem} {Z : Ch} {A : Nat → Int} {a b : Int} (hd : 20 ≤ d) (iv : IV M Z A) (a1 : -2147483648 ≤ a) (a2 : a < 2147483648) (b1 : -2147483648 ≤ b) (b2 : b < 2147483648): CT l E d m_FN_whose [(.ref 0, 0), (.int (iN a), 0), (.int (iN b), 0)] (zA M Z A) (fun v1 M1 => CT l E d m_Mod_whose [(.ref 24, 41), (.int (iN a), 0), (.int (iN b), 0)] M1 (fun v2 M2 => PST v1 v2 M2)) := by
  obtain ⟨rc, rs, ry, rz, hf, hc, hs, ht, hl, hr, hk⟩ := id iv
  have f5 := hf.2.1
  have f6 := hf.2.2.1
  have er : zA M Z A rc = M rc := zA_r M Z A (by omega)
  have fc := hf.fc hc
  have hB := hs.2.1
  have hW := hc.1
  have hV := hW.1
  have hR := hc.2.1
  refine c_whoseQ (by omega) fc a1 a2 b1 b2 (fun c => ?_) (fun c q1 q2 c2 => ?_) (fun c q1 q2 j c2 => ?_)
  · rw [er] at c
    rw [zA_st]
    exact x_whose (by omega) hB hV hR a1 a2 b1 b2 (fun _ => ⟨rfl, _, _, _, rfl, iv.st _⟩) (fun c2 q1 q2 => absurd ⟨c2, q1, q2⟩ c) (fun c2 q1 q2 => absurd ⟨c2, q1, q2⟩ c)
  · rw [er] at c c2
    rw [zA_st]
    exact x_whose (by omega) hB hV hR a1 a2 b1 b2 (fun c3 => absurd ⟨c, q1, q2⟩ c3) (fun _ _ _ _ => ⟨rfl, _, _, _, rfl, iv.st _⟩) (fun _ _ _ j c3 => by rw [c2] at c3; omega)
  · rw [er] at c c2 ⊢
    rw [zA_st]
    refine x_whose (by omega) hB hV hR a1 a2 b1 b2 (fun c3 => absurd ⟨c, q1, q2⟩ c3) (fun _ _ _ c3 => by rw [c2] at c3; omega) (fun _ _ _ j2 c3 => ?_)
    have : j2 = j := by rw [c2] at c3; omega
    subst this
    exact ⟨rfl, _, _, _, rfl, iv.st _⟩
theorem i_before {l : Launch} {E : EnvT} {d : Nat} {M : Mem} {Z : Ch} {A : Nat → Int} {a b : Int} (hd : 20 ≤ d) (iv : IV M Z A) (a1 : -2147483648 ≤ a) (a2 : a < 2147483648) (b1 : -2147483648 ≤ b) (b2 : b < 2147483648): CT l E d m_FN_before [(.ref 0, 0), (.int (iN a), 0), (.int (iN b), 0)] (zA M Z A) (fun v1 M1 => CT l E d m_Mod_before [(.ref 24, 41), (.int (iN a), 0), (.int (iN b), 0)] M1 (fun v2 M2 => PST v1 v2 M2)) := by
  obtain ⟨rc, rs, ry, rz, hf, hc, hs, ht, hl, hr, hk⟩ := id iv
  have f5 := hf.2.1
  have f6 := hf.2.2.1
  have er : zA M Z A rc = M rc := zA_r M Z A (by omega)
  have fc := hf.fc hc
  have hB := hs.2.1
  have hW := hc.1
  have hV := hW.1
  have hR := hc.2.1
  refine c_beforeQ (by omega) fc a1 a2 b1 b2 (fun c => ?_) (fun c c2 c3 c4 => ?_)
  · rw [zA_st]
    exact x_before (by omega) hV hR a1 a2 b1 b2 (fun _ => ⟨rfl, _, _, _, rfl, iv.st _⟩) (fun c2 c3 c4 c5 => absurd ⟨c2, c3, c4, c5⟩ c)
  · rw [er, zA_st]
    exact x_before (by omega) hV hR a1 a2 b1 b2 (fun q => absurd ⟨c, c2, c3, c4⟩ q) (fun _ _ _ _ => ⟨rfl, _, _, _, rfl, iv.st _⟩)
theorem i_when {l : Launch} {E : EnvT} {d : Nat} {M : Mem} {Z : Ch} {A : Nat → Int} {a b : Int} (hd : 20 ≤ d) (iv : IV M Z A) (a1 : -2147483648 ≤ a) (a2 : a < 2147483648) (b1 : -2147483648 ≤ b) (b2 : b < 2147483648): CT l E d m_FN_when [(.ref 0, 0), (.int (iN a), 0), (.int (iN b), 0)] (zA M Z A) (fun v1 M1 => CT l E d m_Mod_when [(.ref 24, 41), (.int (iN a), 0), (.int (iN b), 0)] M1 (fun v2 M2 => PST v1 v2 M2)) := by
  obtain ⟨rc, rs, ry, rz, hf, hc, hs, ht, hl, hr, hk⟩ := id iv
  have f5 := hf.2.1
  have f6 := hf.2.2.1
  have er : zA M Z A rc = M rc := zA_r M Z A (by omega)
  have fc := hf.fc hc
  have hB := hs.2.1
  have hW := hc.1
  have hV := hW.1
  have hR := hc.2.1
  refine c_whenQ (by omega) fc a1 a2 b1 b2 (fun c => ?_) (fun c c2 c3 c4 => ?_)
  · rw [zA_st]
    exact x_when (by omega) hV hR a1 a2 b1 b2 (fun _ => ⟨rfl, _, _, _, rfl, iv.st _⟩) (fun c2 c3 c4 c5 => absurd ⟨c2, c3, c4, c5⟩ c)
  · rw [er, zA_st]
    exact x_when (by omega) hV hR a1 a2 b1 b2 (fun q => absurd ⟨c, c2, c3, c4⟩ q) (fun _ _ _ _ => ⟨rfl, _, _, _, rfl, iv.st _⟩)
theorem i_heard {l : Launch} {E : EnvT} {d : Nat} {M : Mem} {Z : Ch} {A : Nat → Int} {a t : Int} (hd : 20 ≤ d) (iv : IV M Z A) (a1 : -2147483648 ≤ a) (a2 : a < 2147483648) (t1 : -2147483648 ≤ t) (t2 : t < 2147483648): CT l E d m_FN_heard [(.ref 0, 0), (.int (iN a), 0), (.int (iN t), 0)] (zA M Z A) (fun v1 M1 => CT l E d m_Mod_heard [(.ref 24, 41), (.int (iN a), 0), (.int (iN t), 0)] M1 (fun v2 M2 => PST v1 v2 M2)) := by
  obtain ⟨rc, rs, ry, rz, hf, hc, hs, ht, hl, hr, hk⟩ := id iv
  have f5 := hf.2.1
  have f6 := hf.2.2.1
  have er : zA M Z A rc = M rc := zA_r M Z A (by omega)
  have fc := hf.fc hc
  have hB := hs.2.1
  have hW := hc.1
  have hV := hW.1
  have hR := hc.2.1
  have it : IVt (zA M Z A) Z := ht.cg (fun r r1 r2 => zA_r M Z A (by omega)) rfl rfl rfl
  have hT := it.1
  have hTR := it.2
  refine c_heardQ (by omega) fc hT a1 a2 t1 t2 (fun c => ?_) (fun c => ?_)
  · rw [er] at c ⊢
    rw [zA_st]
    exact x_heard (by omega) hB hV hR hT hTR a1 a2 t1 t2 (fun _ => ⟨rfl, _, _, _, rfl, iv.st _⟩) (fun c2 => absurd c2 c)
  · rw [er] at c ⊢
    rw [zA_st]
    exact x_heard (by omega) hB hV hR hT hTR a1 a2 t1 t2 (fun c2 => absurd c c2) (fun _ => ⟨rfl, _, _, _, rfl, iv.st _⟩)
theorem i_transposed {l : Launch} {E : EnvT} {d : Nat} {M : Mem} {Z : Ch} {A : Nat → Int} {a t : Int} (hd : 20 ≤ d) (iv : IV M Z A) (a1 : -2147483648 ≤ a) (a2 : a < 2147483648) (t1 : -2147483648 ≤ t) (t2 : t < 2147483648): CT l E d m_FN_transposed [(.ref 0, 0), (.int (iN a), 0), (.int (iN t), 0)] (zA M Z A) (fun v1 M1 => CT l E d m_Mod_transposed [(.ref 24, 41), (.int (iN a), 0), (.int (iN t), 0)] M1 (fun v2 M2 => PST v1 v2 M2)) := by
  obtain ⟨rc, rs, ry, rz, hf, hc, hs, ht, hl, hr, hk⟩ := id iv
  have f5 := hf.2.1
  have f6 := hf.2.2.1
  have er : zA M Z A rc = M rc := zA_r M Z A (by omega)
  have fc := hf.fc hc
  have hB := hs.2.1
  have hW := hc.1
  have hV := hW.1
  have hR := hc.2.1
  have it : IVt (zA M Z A) Z := ht.cg (fun r r1 r2 => zA_r M Z A (by omega)) rfl rfl rfl
  have hT := it.1
  have hTR := it.2
  have hL : ∀ s : Nat, (s : Int) < M rc 0 8 → 1 ≤ M rc 4 s := fun s hs => by
    have := hW.2.2.2.2.2.2.2.2.1 s (by rw [fx_8]; exact hs)
    rw [fx_c _ (by decide)] at this
    exact this
  refine c_transposedQ (by omega) fc hT a1 a2 t1 t2 (by rw [er]; exact hL) (fun c => ?_) (fun c c2 => ?_) (fun c c2 => ?_)
  · rw [er] at c ⊢
    rw [zA_st]
    exact x_transposed (by omega) hB hV hR hT hTR a1 a2 t1 t2 hL (fun _ => ⟨rfl, _, _, _, rfl, iv.st _⟩) (fun c2 => absurd c2 c) (fun c2 => absurd c2 c)
  · rw [er] at c c2
    rw [zA_st]
    exact x_transposed (by omega) hB hV hR hT hTR a1 a2 t1 t2 hL (fun c3 => absurd c c3) (fun _ _ => ⟨rfl, _, _, _, rfl, iv.st _⟩) (fun _ c3 => by rw [c2] at c3; cases c3)
  · rw [er] at c c2 ⊢
    rw [zA_st]
    exact x_transposed (by omega) hB hV hR hT hTR a1 a2 t1 t2 hL (fun c3 => absurd c c3) (fun _ c3 => by rw [c2] at c3; cases c3) (fun _ _ => ⟨rfl, _, _, _, rfl, iv.st _⟩)
theorem i_forged {l : Launch} {E : EnvT} {d : Nat} {M : Mem} {Z : Ch} {A : Nat → Int} {a t : Int} (hd : 20 ≤ d) (iv : IV M Z A) (a1 : -2147483648 ≤ a) (a2 : a < 2147483648) (t1 : -2147483648 ≤ t) (t2 : t < 2147483648): CT l E d m_FN_forged [(.ref 0, 0), (.int (iN a), 0), (.int (iN t), 0)] (zA M Z A) (fun v1 M1 => CT l E d m_Mod_forged [(.ref 24, 41), (.int (iN a), 0), (.int (iN t), 0)] M1 (fun v2 M2 => PST v1 v2 M2)) := by
  obtain ⟨rc, rs, ry, rz, hf, hc, hs, ht, hl, hr, hk⟩ := id iv
  have f5 := hf.2.1
  have f6 := hf.2.2.1
  have er : zA M Z A rc = M rc := zA_r M Z A (by omega)
  have fc := hf.fc hc
  have hB := hs.2.1
  have hW := hc.1
  have hV := hW.1
  have hR := hc.2.1
  have it : IVt (zA M Z A) Z := ht.cg (fun r r1 r2 => zA_r M Z A (by omega)) rfl rfl rfl
  have hT := it.1
  have hTR := it.2
  refine c_forgedQ (by omega) fc hT a1 a2 t1 t2 (fun c => ?_) (fun c c2 => ?_) (fun c c2 => ?_)
  · rw [er] at c ⊢
    rw [zA_st]
    exact x_forged (by omega) hB hV hR hT hTR a1 a2 t1 t2 (fun _ => ⟨rfl, _, _, _, rfl, iv.st _⟩) (fun c2 => absurd c2 c) (fun c2 => absurd c2 c)
  · rw [er] at c c2
    rw [zA_st]
    exact x_forged (by omega) hB hV hR hT hTR a1 a2 t1 t2 (fun c3 => absurd c c3) (fun _ _ => ⟨rfl, _, _, _, rfl, iv.st _⟩) (fun _ c3 => absurd c2 (by omega))
  · rw [er] at c c2 ⊢
    rw [zA_st]
    exact x_forged (by omega) hB hV hR hT hTR a1 a2 t1 t2 (fun c3 => absurd c c3) (fun _ c3 => absurd c2 (by omega)) (fun _ _ => ⟨rfl, _, _, _, rfl, iv.st _⟩)
theorem i_read {l : Launch} {E : EnvT} {d : Nat} {M : Mem} {Z : Ch} {A : Nat → Int} {a b : Int} (hd : 20 ≤ d) (iv : IV M Z A) (a1 : -2147483648 ≤ a) (a2 : a < 2147483648) (b1 : -2147483648 ≤ b) (b2 : b < 2147483648): CT l E d m_FN_read [(.ref 0, 0), (.int (iN a), 0), (.int (iN b), 0)] (zA M Z A) (fun v1 M1 => CT l E d m_Mod_read [(.ref 24, 41), (.int (iN a), 0), (.int (iN b), 0)] M1 (fun v2 M2 => PST v1 v2 M2)) := by
  obtain ⟨rc, rs, ry, rz, hf, hc, hs, ht, hl, hr, hk⟩ := id iv
  have f5 := hf.2.1
  have f6 := hf.2.2.1
  have er : zA M Z A rc = M rc := zA_r M Z A (by omega)
  have fc := hf.fc hc
  have hB := hs.2.1
  have hW := hc.1
  have hV := hW.1
  have hR := hc.2.1
  have it : IVt (zA M Z A) Z := ht.cg (fun r r1 r2 => zA_r M Z A (by omega)) rfl rfl rfl
  have hT := it.1
  have hTR := it.2
  refine c_readQ (by omega) hT a1 a2 b1 b2 (fun c => ?_) (fun c => ?_)
  · rw [zA_st]
    exact r_read (by omega) hT hTR a1 a2 b1 b2 (fun _ => ⟨rfl, _, _, _, rfl, iv.st _⟩) (fun c2 => absurd c2 c)
  · rw [zA_st]
    exact r_read (by omega) hT hTR a1 a2 b1 b2 (fun c2 => absurd c c2) (fun _ => ⟨rfl, _, _, _, rfl, iv.st _⟩)
theorem i_payings {l : Launch} {E : EnvT} {d : Nat} {M : Mem} {Z : Ch} {A : Nat → Int} (hd : 20 ≤ d) (iv : IV M Z A) : CT l E d m_FN_payings [(.ref 0, 0)] (zA M Z A) (fun v1 M1 => CT l E d m_Mod_payings [(.ref 24, 41)] M1 (fun v2 M2 => PST v1 v2 M2)) := by
  obtain ⟨rc, rs, ry, rz, hf, hc, hs, ht, hl, hr, hk⟩ := id iv
  have f5 := hf.2.1
  have f6 := hf.2.2.1
  have er : zA M Z A rc = M rc := zA_r M Z A (by omega)
  have fc := hf.fc hc
  have hB := hs.2.1
  have hW := hc.1
  have hV := hW.1
  have hR := hc.2.1
  obtain ⟨n, hn⟩ : ∃ n : Nat, M rc 0 8 = n := ⟨(M rc 0 8).toNat, by have := hV.n; omega⟩
  have hn2 : zA M Z A rc 0 8 = n := by rw [er]; exact hn
  refine c_payingsQ (by omega) fc hn2 (fun T T2 lk => ?_)
  rw [er] at lk
  rw [zA_set M Z A _ (by decide), zA_st]
  exact x_payings (by omega) hB hW hR hn lk (fun Z2 zs => ⟨rfl, _, _, _, rfl, (iv.zs zs _).st _⟩)
theorem i_parts {l : Launch} {E : EnvT} {d : Nat} {M : Mem} {Z : Ch} {A : Nat → Int} (hd : 20 ≤ d) (iv : IV M Z A) : CT l E d m_FN_parts [(.ref 0, 0)] (zA M Z A) (fun v1 M1 => CT l E d m_Mod_parts [(.ref 24, 41)] M1 (fun v2 M2 => PST v1 v2 M2)) := by
  obtain ⟨rc, rs, ry, rz, hf, hc, hs, ht, hl, hr, hk⟩ := id iv
  have f5 := hf.2.1
  have f6 := hf.2.2.1
  have er : zA M Z A rc = M rc := zA_r M Z A (by omega)
  have fc := hf.fc hc
  have hB := hs.2.1
  have hW := hc.1
  have hV := hW.1
  have hR := hc.2.1
  obtain ⟨n, hn⟩ : ∃ n : Nat, M rc 0 8 = n := ⟨(M rc 0 8).toNat, by have := hV.n; omega⟩
  have hn2 : zA M Z A rc 0 8 = n := by rw [er]; exact hn
  refine c_partsQ (by omega) fc hn2 (fun T T2 lk => ?_)
  rw [er] at lk
  rw [zA_set M Z A _ (by decide), zA_st]
  exact x_parts (by omega) hB hW hR hn lk (fun Z2 zs => ⟨rfl, _, _, _, rfl, (iv.zs zs _).st _⟩)
theorem i_chain {l : Launch} {E : EnvT} {d : Nat} {M : Mem} {Z : Ch} {A : Nat → Int} (hd : 20 ≤ d) (iv : IV M Z A) : CT l E d m_FN_chain [(.ref 0, 0)] (zA M Z A) (fun v1 M1 => CT l E d m_Mod_chain [(.ref 24, 41)] M1 (fun v2 M2 => PST v1 v2 M2)) := by
  obtain ⟨rc, rs, ry, rz, hf, hc, hs, ht, hl, hr, hk⟩ := id iv
  have f5 := hf.2.1
  have f6 := hf.2.2.1
  have er : zA M Z A rc = M rc := zA_r M Z A (by omega)
  have fc := hf.fc hc
  have hB := hs.2.1
  have hW := hc.1
  have hV := hW.1
  have hR := hc.2.1
  obtain ⟨n, hn⟩ : ∃ n : Nat, M rc 0 8 = n := ⟨(M rc 0 8).toNat, by have := hV.n; omega⟩
  have hn2 : zA M Z A rc 0 8 = n := by rw [er]; exact hn
  refine c_chainQ (by omega) fc hn2 (fun T T2 lk => ?_)
  rw [er] at lk ⊢
  rw [zA_set M Z A _ (by decide), zA_st]
  exact x_chain (by omega) hB hW hR hn lk (fun Z2 zs => ⟨rfl, _, _, _, rfl, (iv.zs zs _).st _⟩)
theorem i_round {l : Launch} {E : EnvT} {d : Nat} {M : Mem} {Z : Ch} {A : Nat → Int} (hd : 20 ≤ d) (iv : IV M Z A) : CT l E d m_FN_round [(.ref 0, 0)] (zA M Z A) (fun v1 M1 => CT l E d m_Mod_round [(.ref 24, 41)] M1 (fun v2 M2 => PST v1 v2 M2)) := by
  obtain ⟨rc, rs, ry, rz, hf, hc, hs, ht, hl, hr, hk⟩ := id iv
  have f5 := hf.2.1
  have f6 := hf.2.2.1
  have er : zA M Z A rc = M rc := zA_r M Z A (by omega)
  have fc := hf.fc hc
  have hB := hs.2.1
  have hW := hc.1
  have hV := hW.1
  have hR := hc.2.1
  obtain ⟨n, hn⟩ : ∃ n : Nat, M rc 0 8 = n := ⟨(M rc 0 8).toNat, by have := hV.n; omega⟩
  have hn2 : zA M Z A rc 0 8 = n := by rw [er]; exact hn
  refine c_roundQ (by omega) fc hn2 (fun T T2 lk => ?_)
  rw [er] at lk
  rw [zA_set M Z A _ (by decide), zA_st]
  exact x_round (by omega) hB hV hR hn lk (fun Z2 zs => ⟨rfl, _, _, _, rfl, (iv.zs zs _).st _⟩)
theorem i_ask {l : Launch} {E : EnvT} {d : Nat} {M : Mem} {Z : Ch} {A : Nat → Int} (hd : 20 ≤ d) (iv : IV M Z A) : CT l E d m_FN_ask [(.ref 0, 0)] (zA M Z A) (fun v1 M1 => CT l E d m_Mod_ask [(.ref 24, 41)] M1 (fun v2 M2 => PST v1 v2 M2)) := by
  obtain ⟨rc, rs, ry, rz, hf, hc, hs, ht, hl, hr, hk⟩ := id iv
  have f5 := hf.2.1
  have f6 := hf.2.2.1
  have er : zA M Z A rc = M rc := zA_r M Z A (by omega)
  have fc := hf.fc hc
  have hB := hs.2.1
  have hW := hc.1
  have hV := hW.1
  have hR := hc.2.1
  obtain ⟨n, hn⟩ : ∃ n : Nat, M rc 0 8 = n := ⟨(M rc 0 8).toNat, by have := hV.n; omega⟩
  have hn2 : zA M Z A rc 0 8 = n := by rw [er]; exact hn
  refine c_askQ (by omega) fc hn2 (fun T lk => ?_)
  rw [er] at lk
  rw [zA_set M Z A _ (by decide), zA_st]
  have zs : ZS Z Z := fun _ _ _ => rfl
  exact x_ask (by omega) hB hV hR hn lk ⟨rfl, _, _, _, rfl, (iv.zs zs _).st _⟩
theorem i_askSet {l : Launch} {E : EnvT} {d : Nat} {M : Mem} {Z : Ch} {A : Nat → Int} (hd : 20 ≤ d) (iv : IV M Z A) : CT l E d m_FN_askSet [(.ref 0, 0)] (zA M Z A) (fun v1 M1 => CT l E d m_Mod_askSet [(.ref 24, 41)] M1 (fun v2 M2 => PST v1 v2 M2)) := by
  obtain ⟨rc, rs, ry, rz, hf, hc, hs, ht, hl, hr, hk⟩ := id iv
  have f5 := hf.2.1
  have f6 := hf.2.2.1
  have er : zA M Z A rc = M rc := zA_r M Z A (by omega)
  have fc := hf.fc hc
  have hB := hs.2.1
  have hW := hc.1
  have hV := hW.1
  have hR := hc.2.1
  obtain ⟨n, hn⟩ : ∃ n : Nat, M rc 0 8 = n := ⟨(M rc 0 8).toNat, by have := hV.n; omega⟩
  have hn2 : zA M Z A rc 0 8 = n := by rw [er]; exact hn
  refine c_askSetQ (by omega) fc hn2 (fun T lk => ?_)
  rw [er] at lk
  rw [zA_set M Z A _ (by decide), zA_st]
  have zs : ZS Z Z := fun _ _ _ => rfl
  exact x_askSet (by omega) hB hV hR hn lk ⟨rfl, _, _, _, rfl, (iv.zs zs _).st _⟩
theorem i_behind {l : Launch} {E : EnvT} {d : Nat} {M : Mem} {Z : Ch} {A : Nat → Int} {a : Int} (hd : 20 ≤ d) (iv : IV M Z A) (a1 : -2147483648 ≤ a) (a2 : a < 2147483648): CT l E d m_FN_behind [(.ref 0, 0), (.int (iN a), 0)] (zA M Z A) (fun v1 M1 => CT l E d m_Mod_behind [(.ref 24, 41), (.int (iN a), 0)] M1 (fun v2 M2 => PST v1 v2 M2)) := by
  obtain ⟨rc, rs, ry, rz, hf, hc, hs, ht, hl, hr, hk⟩ := id iv
  have f5 := hf.2.1
  have f6 := hf.2.2.1
  have er : zA M Z A rc = M rc := zA_r M Z A (by omega)
  have fc := hf.fc hc
  have hB := hs.2.1
  have hW := hc.1
  have hV := hW.1
  have hR := hc.2.1
  obtain ⟨n, hn⟩ : ∃ n : Nat, M rc 0 8 = n := ⟨(M rc 0 8).toNat, by have := hV.n; omega⟩
  have hn2 : zA M Z A rc 0 8 = n := by rw [er]; exact hn
  refine c_behindQ (by omega) fc hn2 a1 a2 (fun c => ?_) (fun c T lk => ?_)
  · rw [er] at c
    rw [zA_st]
    obtain ⟨T, lk⟩ := lkE (M rc) n
    exact x_behind (by omega) hB hV hR hn a1 a2 (fun _ => ⟨rfl, _, _, _, rfl, iv.st _⟩) lk (fun c2 => by rw [c] at c2; cases c2)
  · rw [er] at c lk
    rw [zA_set M Z A _ (by decide), zA_st]
    have zs : ZS Z Z := fun _ _ _ => rfl
    exact x_behind (by omega) hB hV hR hn a1 a2 (fun c2 => by rw [c] at c2; cases c2) lk (fun _ => ⟨rfl, _, _, _, rfl, (iv.zs zs _).st _⟩)
theorem i_roundAt {l : Launch} {E : EnvT} {d : Nat} {M : Mem} {Z : Ch} {A : Nat → Int} {a : Int} (hd : 20 ≤ d) (iv : IV M Z A) (a1 : -2147483648 ≤ a) (a2 : a < 2147483648): CT l E d m_FN_roundAt [(.ref 0, 0), (.int (iN a), 0)] (zA M Z A) (fun v1 M1 => CT l E d m_Mod_roundAt [(.ref 24, 41), (.int (iN a), 0)] M1 (fun v2 M2 => PST v1 v2 M2)) := by
  obtain ⟨rc, rs, ry, rz, hf, hc, hs, ht, hl, hr, hk⟩ := id iv
  have f5 := hf.2.1
  have f6 := hf.2.2.1
  have er : zA M Z A rc = M rc := zA_r M Z A (by omega)
  have fc := hf.fc hc
  have hB := hs.2.1
  have hW := hc.1
  have hV := hW.1
  have hR := hc.2.1
  obtain ⟨n, hn⟩ : ∃ n : Nat, M rc 0 8 = n := ⟨(M rc 0 8).toNat, by have := hV.n; omega⟩
  have hn2 : zA M Z A rc 0 8 = n := by rw [er]; exact hn
  refine c_roundAtQ (by omega) fc hn2 a1 a2 (fun c => ?_) (fun c T T2 lk c2 => ?_) (fun c T T2 lk c2 => ?_)
  · rw [zA_st]
    obtain ⟨T, lk⟩ := lkE (M rc) n
    exact x_roundAt (by omega) hB hV hR hn lk a1 a2 (fun _ => ⟨rfl, _, _, _, rfl, iv.st _⟩) (fun c2 => absurd c2 (by omega)) (fun c2 => absurd c2 (by omega))
  · rw [er] at lk
    rw [zA_set M Z A _ (by decide), zA_st]
    exact x_roundAt (by omega) hB hV hR hn lk a1 a2 (fun c3 => absurd c3 (by omega)) (fun _ _ Z2 zs => ⟨rfl, _, _, _, rfl, (iv.zs zs _).st _⟩) (fun _ c3 => absurd c3 (by omega))
  · rw [er] at lk
    rw [zA_set M Z A _ (by decide), zA_st]
    exact x_roundAt (by omega) hB hV hR hn lk a1 a2 (fun c3 => absurd c3 (by omega)) (fun _ c3 => absurd c3 (by omega)) (fun _ _ Z2 zs => ⟨rfl, _, _, _, rfl, (iv.zs zs _).st _⟩)
