/-! ===== pure: a line of a word ===== -/
def addWd (P : PS) (s r b k : Nat) : PS := (fun i j => if i = 0 ∧ j = 5 then P.F 0 5 + 1 else if i = 4 ∧ j = P.F 0 5 then r else if i = 5 ∧ j = P.F 0 5 then b else if i = 6 ∧ j = P.F 0 5 then k else P.F i j, P.pa, P.pb, fun w => if w = P.F 0 5 then s else P.nm w)
theorem addWd_F (P : PS) (s r b k i j : Nat) : (addWd P s r b k).F i j = if i = 0 ∧ j = 5 then P.F 0 5 + 1 else if i = 4 ∧ j = P.F 0 5 then r else if i = 5 ∧ j = P.F 0 5 then b else if i = 6 ∧ j = P.F 0 5 then k else P.F i j := rfl
theorem addWd_0 (P : PS) (s r b k : Nat) {j : Nat} (h : j ≠ 5) : (addWd P s r b k).F 0 j = P.F 0 j := by
  rw [addWd_F, if_neg (fun q => h q.2), if_neg (by omega), if_neg (by omega), if_neg (by omega)]
theorem addWd_05 (P : PS) (s r b k : Nat) : (addWd P s r b k).F 0 5 = P.F 0 5 + 1 := by
  rw [addWd_F, if_pos ⟨rfl, rfl⟩]
theorem addWd_k (P : PS) (s r b k : Nat) {i : Nat} (h : 1 ≤ i) (h3 : i ≤ 3) : (addWd P s r b k).F i = P.F i := by
  funext j
  rw [addWd_F, if_neg (by omega), if_neg (by omega), if_neg (by omega), if_neg (by omega)]
theorem addWd_4 (P : PS) (s r b k j : Nat) : (addWd P s r b k).F 4 j = if j = P.F 0 5 then r else P.F 4 j := by
  rw [addWd_F, if_neg (by omega)]
  by_cases e : j = P.F 0 5
  · rw [if_pos ⟨rfl, e⟩, if_pos e]
  · rw [if_neg (fun q => e q.2), if_neg (by omega), if_neg (by omega), if_neg e]
theorem addWd_5 (P : PS) (s r b k j : Nat) : (addWd P s r b k).F 5 j = if j = P.F 0 5 then b else P.F 5 j := by
  rw [addWd_F, if_neg (by omega), if_neg (by omega)]
  by_cases e : j = P.F 0 5
  · rw [if_pos ⟨rfl, e⟩, if_pos e]
  · rw [if_neg (fun q => e q.2), if_neg (by omega), if_neg e]
theorem addWd_6 (P : PS) (s r b k j : Nat) : (addWd P s r b k).F 6 j = if j = P.F 0 5 then k else P.F 6 j := by
  rw [addWd_F, if_neg (by omega), if_neg (by omega), if_neg (by omega)]
  by_cases e : j = P.F 0 5
  · rw [if_pos ⟨rfl, e⟩, if_pos e]
  · rw [if_neg (fun q => e q.2), if_neg e]
theorem addWd_W {P : PS} {s r b k : Nat} (hW : PSW P) (h12 : P.F 0 5 < 12) (hr : r ≤ 99) (hb : b ≤ 9) (hk : k ≤ 99) : PSW (addWd P s r b k) := by
  obtain ⟨⟨a1, a2, a3, a4, a5, a6, a7, a8⟩, bb, c, d, e⟩ := hW
  have z0 := addWd_0 P s r b k (j := 0) (by omega)
  have z1 := addWd_0 P s r b k (j := 1) (by omega)
  have z2 := addWd_0 P s r b k (j := 2) (by omega)
  have z3 := addWd_0 P s r b k (j := 3) (by omega)
  have z4 := addWd_0 P s r b k (j := 4) (by omega)
  have z6 := addWd_0 P s r b k (j := 6) (by omega)
  have y5 := addWd_05 P s r b k
  have k1 := addWd_k P s r b k (i := 1) (by omega) (by omega)
  have k2 := addWd_k P s r b k (i := 2) (by omega) (by omega)
  have k3 := addWd_k P s r b k (i := 3) (by omega) (by omega)
  have pw : PW (addWd P s r b k).F (addWd P s r b k).pa (addWd P s r b k).pb := by
    unfold PW
    rw [z0, z2, k2]
    exact e
  unfold PSW
  rw [z0, z1, z2, z3, z4, z6, y5, k1, k2, k3]
  refine ⟨⟨a1, a2, a3, a4, a5, a6, by omega, a8⟩, bb, c, fun w hw => ?_, pw⟩
  rw [addWd_4, addWd_5, addWd_6]
  by_cases q : w = P.F 0 5
  · rw [if_pos q, if_pos q, if_pos q]; exact ⟨hr, hb, hk⟩
  · rw [if_neg q, if_neg q, if_neg q]; exact d w (by omega)
/-- a name told before -/
def dupN (sg : Nat → Nat) (t : Nat) (nm : Nat → Nat) (v : Nat) : Nat → Bool
  | 0 => false
  | n + 1 => dupN sg t nm v n || (v32 sg t (nm n) == v)
/-- the k-th token behind -/
def nxs (sg : Nat → Nat) (t : Nat) : Nat → Nat → Nat
  | 0, s => s
  | k + 1, s => nxt sg t (nxs sg t k s)
def wordP (sg : Nat → Nat) (t s : Nat) (P : PS) : PO :=
  if 12 ≤ P.F 0 5 then .bad (5 + 16 * s)
  else if ¬ (tkey sg t (nxs sg t 1 s) = 3 ∨ 147 ≤ tkey sg t (nxs sg t 1 s)) then .bad (1 + 16 * nxs sg t 1 s)
  else if dupN sg t P.nm (v32 sg t (nxs sg t 1 s)) (P.F 0 5) = true then .bad (3 + 16 * nxs sg t 1 s)
  else if tkey sg t (nxs sg t 2 s) ≠ 136 then .bad (1 + 16 * nxs sg t 2 s)
  else if numK sg t 0 99 none (nxs sg t 3 s) ≠ 0 then .bad (numK sg t 0 99 none (nxs sg t 3 s) + 16 * nxs sg t 3 s)
  else if tkey sg t (nxs sg t 4 s) ≠ 141 then .bad (1 + 16 * nxs sg t 4 s)
  else if numK sg t 1 9 none (nxs sg t 5 s) ≠ 0 then .bad (numK sg t 1 9 none (nxs sg t 5 s) + 16 * nxs sg t 5 s)
  else if tkey sg t (nxs sg t 6 s) ≠ 142 then .bad (1 + 16 * nxs sg t 6 s)
  else if numK sg t 0 99 none (nxs sg t 7 s) ≠ 0 then .bad (numK sg t 0 99 none (nxs sg t 7 s) + 16 * nxs sg t 7 s)
  else .ok (nxs sg t 8 s) (addWd P (nxs sg t 1 s) (v10 sg t (nxs sg t 3 s)) (v10 sg t (nxs sg t 5 s)) (v10 sg t (nxs sg t 7 s)))
theorem nxs_le {sg : Nat → Nat} {t s : Nat} (hs : s ≤ t) : ∀ k, nxs sg t k s ≤ t
  | 0 => hs
  | k + 1 => nxt_le (nxs_le hs k)
