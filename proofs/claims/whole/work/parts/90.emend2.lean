/-! ===== pure: the class's mender finds the fewest and the least ===== -/
def OKf (F : Fm) (L a : Nat → Nat) : Prop := ∀ e, e < F 0 0 → a e < F 0 5 ∧ ∀ o, o < e → cp F L false o (a o) e (a e) = true
abbrev cst (F : Fm) (D : Dr) (a : Nat → Nat) : Nat := smW (fun e => chg F D e (a e)) (F 0 0)
theorem cp_f {F : Fm} {L : Nat → Nat} {o x e w : Nat} : cp F L false o x e w = true ↔ x ≠ w ∧ (L o = L e → F 4 x = F 4 w) := by
  unfold cp
  by_cases h1 : x = w <;> by_cases h2 : L o = L e <;> by_cases h3 : F 4 x = F 4 w <;> simp [h1, h2, h3]
theorem OKf_inj {F : Fm} {L a : Nat → Nat} (h : OKf F L a) {o e : Nat} (ho : o < F 0 0) (he : e < F 0 0) (q : a o = a e) : o = e := by
  rcases Nat.lt_or_ge o e with c | c
  · exact absurd q (cp_f.mp ((h e he).2 o c)).1
  · rcases Nat.lt_or_ge e o with d | d
    · exact absurd q.symm (cp_f.mp ((h o ho).2 e d)).1
    · omega
theorem OKf_cl {F : Fm} {L a : Nat → Nat} (h : OKf F L a) {o e : Nat} (ho : o < F 0 0) (he : e < F 0 0) (q : L o = L e) : F 4 (a o) = F 4 (a e) := by
  rcases Nat.lt_or_ge o e with c | c
  · exact (cp_f.mp ((h e he).2 o c)).2 q
  · rcases Nat.lt_or_ge e o with d | d
    · exact ((cp_f.mp ((h o ho).2 e d)).2 q.symm).symm
    · rw [show o = e by omega]
theorem PA_full {F : Fm} {L : Nat → Nat} {ch : Nat → Nat → Nat} {g : Nat → Option Nat} {π : Nat → Nat} (hπ : srt F (F 0 5) π) {c : Nat} :
    PA (F 0 0) (F 0 5) L (F 4) ch g π (F 0 5) (2 ^ F 0 0 - 1) c ↔ ∃ a, OKf F L a ∧ (∀ e, e < F 0 0 → gok g e (a e) = true) ∧ c = smW (fun e => ch e (a e)) (F 0 0) := by
  have hb : ∀ e, (2 ^ F 0 0 - 1).testBit e = true ↔ e < F 0 0 := fun e => by rw [tb_full]; simp
  constructor
  · rintro ⟨a, h1, h2, h3, h4⟩
    refine ⟨a, fun e he => ⟨?_, fun o ho => cp_f.mpr ⟨fun q => ?_, fun q => ?_⟩⟩, fun e he => (h1 e ((hb e).mpr he)).2.2, ?_⟩
    · obtain ⟨-, ⟨j, j1, j2⟩, -⟩ := h1 e ((hb e).mpr he)
      rw [j2]; exact hπ.1.1 j j1
    · have := h2 o e ((hb o).mpr (by omega)) ((hb e).mpr he) q
      omega
    · rcases h3 e o ((hb e).mpr he) (by omega) q with r | r
      · exact r.2
      · have := (hb o).mpr (show o < F 0 0 by omega)
        rw [r.1] at this; cases this
    · rw [h4]
      exact smW_congr _ (fun e he => by rw [if_pos ((hb e).mpr he)])
  · rintro ⟨a, h1, h2, h3⟩
    refine ⟨a, fun e he => ?_, fun e e' he he' q => OKf_inj h1 ((hb e).mp he) ((hb e').mp he') q, fun e e' he he' q => Or.inl ⟨(hb e').mpr he', OKf_cl h1 he' ((hb e).mp he) q⟩, ?_⟩
    · have hen := (hb e).mp he
      obtain ⟨j, j1, j2⟩ := fb_onto (n := F 0 5) (f := π) hπ.1.1 (fun i j hij hj q => by have := hπ.1.2 i j (by omega) hj q; omega) (h1 e hen).1
      exact ⟨hen, ⟨j, j1, j2.symm⟩, h2 e hen⟩
    · rw [h3]
      exact smW_congr _ (fun e he => by rw [if_pos ((hb e).mpr he)])
/-- the fewest changes m, and of equal ones the least words G -/
def LF (F : Fm) (L : Nat → Nat) (D : Dr) (m : Nat) (G : Nat → Nat) : Prop :=
  OKf F L G ∧ cst F D G = m ∧ (∀ b, OKf F L b → m ≤ cst F D b) ∧ ∀ b, OKf F L b → cst F D b = m → ∀ e, e < F 0 0 → (∀ o, o < e → b o = G o) → G e ≤ b e
theorem LF_uniq {F : Fm} {L : Nat → Nat} {D : Dr} {m m' : Nat} {G G' : Nat → Nat} (h : LF F L D m G) (h' : LF F L D m' G') : m = m' ∧ ∀ e, e < F 0 0 → G e = G' e := by
  have hm : m = m' := by
    have a := h.2.2.1 G' h'.1
    have b := h'.2.2.1 G h.1
    have c := h.2.1
    have d := h'.2.1
    omega
  refine ⟨hm, ?_⟩
  have key : ∀ k e, e < k → e < F 0 0 → G e = G' e := by
    intro k
    induction k with
    | zero => intro e he; omega
    | succ k ih =>
      intro e he hen
      by_cases c : e = k
      · subst c
        have a := h.2.2.2 G' h'.1 (by rw [h'.2.1, hm]) e hen (fun o ho => (ih o ho (by omega)).symm)
        have b := h'.2.2.2 G h.1 (by rw [h.2.1, hm]) e hen (fun o ho => ih o ho (by omega))
        omega
      · exact ih e (by omega) hen
  exact fun e he => key (e + 1) e (Nat.lt_succ_self e) he
def MRes (F : Fm) (L : Nat → Nat) (D : Dr) (S : St) : Prop :=
  (gI S 50 9 = -1 ∧ (7 < F 0 0 ∨ ∀ a, ¬ OKf F L a)) ∨ (F 0 0 ≤ 7 ∧ ∃ m G, LF F L D m G ∧ gI S 50 9 = nI m ∧ ∀ e, e < F 0 0 → gI S 51 e = nI (G e))
def MI (F : Fm) (L : Nat → Nat) (D : Dr) (S : St) : Prop := gI S 50 8 = 0 ∨ MRes F L D S
abbrev mcl : List Nat := [50, 51, 52, 53, 54, 55]
/-- the least cost with some words given -/
theorem dp_min {F : Fm} {L : Nat → Nat} {D : Dr} {g : Nat → Option Nat} {π : Nat → Nat} {d : Nat} (hn7 : F 0 0 ≤ 7) (hF : FW F) (hD : DW F D) (hL : ∀ e, e < F 0 0 → L e < F 0 0 ∧ L (L e) = L e) (hπ : srt F (F 0 5) π) (hd : d = dp (F 0 0) (F 0 5) L (F 4) (chg F D) g π (F 0 5) (2 ^ F 0 0 - 1)) :
    (∀ a, OKf F L a → (∀ e, e < F 0 0 → gok g e (a e) = true) → d ≤ cst F D a ∧ cst F D a < 1000) ∧ (d < 1000 → ∃ a, OKf F L a ∧ (∀ e, e < F 0 0 → gok g e (a e) = true) ∧ d = cst F D a) := by
  have hp1 : 1 ≤ 2 ^ F 0 0 := Nat.one_le_two_pow
  obtain ⟨h1, h2, h3⟩ := dp_PA (g := g) (r4 := F 4) (ch := chg F D) hn7 (chg_le hD) hL hπ.1 hπ.2 (F 0 5) (Nat.le_refl _) (2 ^ F 0 0 - 1) (by omega)
  rw [← hd] at h1 h2
  refine ⟨fun a ha hg => ⟨h1 _ ((PA_full hπ).mpr ⟨a, ha, hg, rfl⟩), ?_⟩, fun h => (PA_full hπ).mp (h2 h)⟩
  have : cst F D a ≤ F 0 0 * 60 := smW_le _ (fun e _ => chg_le hD _ _)
  omega
theorem e_settle {F : Fm} {L : Nat → Nat} {D : Dr} {S : St} {Q : St → Prop} (hF : FW F) (hD : DW F D) (hE : FE 21 F S) (hZ : EZ F L S) (hDE : DE 30 D S)
    (hQ : ∀ S', frX mcl S S' → MRes F L D S' → Q S') : w_X6_settle S Q := by
  have hn := hF.1.2.1
  have hww := hF.1.2.2.2.2.2.2.1
  intro S1 hS1
  have hf1 : frX [50] S S1 := by rw [hS1]; exact frX_sI (frX_refl _ _) (by decide)
  have hE1 := FE21_fr hf1 (by simp) hE
  rw [hE1.1 0 (by omega)]
  by_cases hn7 : F 0 0 ≤ 7
  · rw [if_pos ((i7 hn).1.mpr hn7)]
    have hLL : ∀ e, e < F 0 0 → L e < F 0 0 ∧ L (L e) = L e := fun e he => ⟨Lab_lt hZ.2.1 he, (hZ.2.1.1 e he).2⟩
    refine e_countChanges hn7 hF hD hE1 (EZ_fr hf1 (by simp) hZ) (DE_fr hf1 (by simp) hDE) ?_
    intro S2 hf2 h52
    refine e_sortWords hF (FE21_fr hf2 (by simp) hE1) ?_
    intro S3 π hf3 hπ h53
    have hf13 : frX [52, 53] S1 S3 := frX_trans (frX_sub hf2 (by simp)) (frX_sub hf3 (by simp))
    refine e_findUnbroken hn7 hF (FE21_fr hf13 (by simp) hE1) (EZ_fr (frX_trans (frX_sub hf1 (m := [50, 52, 53]) (by simp)) (frX_sub hf13 (by simp))) (by simp) hZ) ?_
    intro S4 hf4 h54
    refine e_blank (by decide) ?_
    have hf5 : frX mcl S (setRow S4 51 (lnE 51) (fun _ => -1)) := frX_row (frX_trans (frX_sub hf1 (by simp)) (frX_trans (frX_sub hf13 (by simp)) (frX_sub hf4 (by simp)))) (by simp)
    have hMD : MD F L (chg F D) π (setRow S4 51 (lnE 51) (fun _ => -1)) := by
      refine ⟨FE21_fr hf5 (by simp) hE, fun i hi => ?_, fun x hx => ?_, fun e w he hw => ?_⟩
      · rw [gI_setRow, if_neg (by omega), frX_g hf4 53 i (by decide)]; exact h53 i hi
      · rw [gI_setRow, if_neg (by omega)]; exact h54 x hx
      · rw [gI_setRow, if_neg (by omega), frX_g hf4 52 _ (by decide), frX_g hf3 52 _ (by decide)]; exact h52 e w he hw
    have h51 : ∀ e, e < F 0 0 → gI (setRow S4 51 (lnE 51) (fun _ => -1)) 51 e = -1 := fun e he => by rw [gI_setRow, if_pos ⟨rfl, by show e < 7; omega⟩]
    generalize setRow S4 51 (lnE 51) (fun _ => -1) = T at *
    refine e_cheapest (g := fun _ => none) hn7 hF hMD hLL hπ (chg_le hD) h51 (fun e v q => by cases q) ?_
    intro S6 hf6 S7 hS7
    have hf7 : frX [50, 55] T S7 := by rw [hS7]; exact frX_sI (frX_sub hf6 (by simp)) (by decide)
    have hdm := dp_min (D := D) (g := fun _ => none) hn7 hF hD hLL hπ rfl
    by_cases hd : dp (F 0 0) (F 0 5) L (F 4) (chg F D) (fun _ => none) π (F 0 5) (2 ^ F 0 0 - 1) < 1000
    · obtain ⟨a0, ha0, -, hc0⟩ := hdm.2 hd
      have h9 : gI S7 50 9 = nI (cst F D a0) := by rw [hS7, gI_sI, if_pos ⟨rfl, rfl⟩, if_pos hd, hc0]
      have hmin : ∀ b, OKf F L b → cst F D a0 ≤ cst F D b := fun b hb => by
        have := (hdm.1 b hb (fun e _ => rfl)).1
        omega
      have hlt := (hdm.1 a0 ha0 (fun e _ => rfl)).2
      generalize hm : cst F D a0 = m at h9 hmin hlt
      -- end by end
      refine up1 (B := b_X6_settle_48 Q) (F 0 0) (by omega) (fun e S' => frX mcl S S' ∧ MD F L (chg F D) π S' ∧ gI S' 50 9 = nI m ∧ ∃ G, (∀ k, k < F 0 0 → gI S' 51 k = gN (if k < e then some (G k) else none)) ∧ (∃ a, OKf F L a ∧ cst F D a = m ∧ ∀ k, k < e → a k = G k) ∧ ∀ b, OKf F L b → cst F D b = m → ∀ k, k < e → (∀ o, o < k → b o = G o) → G k ≤ b k) ?_ ?_ 0 (by omega) ⟨frX_trans hf5 (frX_sub hf7 (by simp)), MD_fr hf7 (by simp) hMD, h9, fun _ => 0, fun k hk => by rw [frX_g hf7 51 k (by decide), h51 k hk, if_neg (by omega)]; rfl, ?_, fun b _ _ k hk => by omega⟩
      · rintro kk e S' he ⟨hf, hM, h9', G, i1, ⟨a, ha1, ha2, ha3⟩, i3⟩ hkk
        unfold b_X6_settle_48
        rw [hM.1.1 0 (by omega), if_neg (nI_ge he (by omega)), h9', if_neg (show ¬ nI m = (-1 : Int32) from fun q => nI_pos (n := m) (by omega) (by rw [q]; decide))]
        have hGw : ∀ k, k < e → G k < F 0 5 := fun k hk => by rw [← ha3 k hk]; exact (ha1 k (by omega)).1
        refine up1 (B := b_X6_giveLeast_2 (nI e) (fun S69_9 => ∀ x72_10, x72_10 = nI e + 1 → kk x72_10 S69_9)) (F 0 5) (by omega) (fun w S2 => frX [51, 55] S' S2 ∧ (∀ k, k < F 0 0 → k ≠ e → gI S2 51 k = gI S' 51 k) ∧ ∀ b, OKf F L b → cst F D b = m → (∀ k, k < e → b k = G k) → w ≤ b e) ?_ ?_ 0 (by omega) ⟨frX_refl _ _, fun _ _ _ => rfl, fun _ _ _ _ => Nat.zero_le _⟩
        · rintro k2 w S2 hw ⟨hf2, j1, j2⟩ hk2
          unfold b_X6_giveLeast_2
          have hM2 := MD_fr hf2 (by simp) hM
          rw [hM2.1.1 5 (by omega), if_neg (nI_ge hw (by omega))]
          refine e_put (by show e < 7; omega) (by decide) ?_
          have hf3 : frX [51, 55] S' (sI S2 51 e (nI w)) := frX_sI hf2 (by decide)
          refine e_cheapest (g := fun k => if k < e then some (G k) else if k = e then some w else none) hn7 hF (MD_fr hf3 (by simp) hM) hLL hπ (chg_le hD) (fun k hk => ?_) (fun k v q => ?_) ?_
          · rw [gI_sI]
            by_cases c : k = e
            · subst c; rw [if_pos ⟨rfl, rfl⟩, if_neg (by omega), if_pos rfl]; rfl
            · rw [if_neg (fun q => c q.2), j1 k hk c, i1 k hk, if_neg c]
          · by_cases c : k < e
            · rw [if_pos c] at q; cases q; exact hGw k c
            · rw [if_neg c] at q
              by_cases c2 : k = e
              · rw [if_pos c2] at q; cases q; exact hw
              · rw [if_neg c2] at q; cases q
          · intro S4 hf4
            have hdm2 := dp_min (D := D) (g := fun k => if k < e then some (G k) else if k = e then some w else none) hn7 hF hD hLL hπ rfl
            generalize dp (F 0 0) (F 0 5) L (F 4) (chg F D) (fun k => if k < e then some (G k) else if k = e then some w else none) π (F 0 5) (2 ^ F 0 0 - 1) = d at *
            have hf4' : frX [51, 55] S' S4 := frX_trans hf3 (frX_sub hf4 (by simp))
            have h9'' : gI S4 50 9 = nI m := by rw [frX_g hf4' 50 9 (by decide)]; exact h9'
            have h51' : ∀ k, k < F 0 0 → gI S4 51 k = gN (if k < e + 1 then some (if k = e then w else G k) else none) := fun k hk => by
              rw [frX_g hf4 51 k (by decide), gI_sI]
              by_cases c : k = e
              · subst c; rw [if_pos ⟨rfl, rfl⟩, if_pos (by omega), if_pos rfl]; rfl
              · rw [if_neg (fun q => c q.2), j1 k hk c, i1 k hk]
                by_cases c2 : k < e
                · rw [if_pos c2, if_pos (by omega), if_neg c]
                · rw [if_neg c2, if_neg (by omega)]
            have hgk : ∀ b : Nat → Nat, (∀ k, k < e → b k = G k) → b e = w → ∀ k, k < F 0 0 → gok (fun k => if k < e then some (G k) else if k = e then some w else none) k (b k) = true := by
              intro b hb1 hb2 k hk
              unfold gok
              by_cases c : k < e
              · dsimp only; rw [if_pos c, hb1 k c]; exact beq_self_eq_true _
              · by_cases c2 : k = e
                · subst c2; dsimp only; rw [if_neg c, if_pos rfl, hb2]; exact beq_self_eq_true _
                · dsimp only; rw [if_neg c, if_neg c2]
            have hgk2 : ∀ b : Nat → Nat, (∀ k, k < F 0 0 → gok (fun k => if k < e then some (G k) else if k = e then some w else none) k (b k) = true) → (∀ k, k < e → b k = G k) ∧ b e = w := by
              intro b hb
              refine ⟨fun k hk => ?_, ?_⟩
              · have := hb k (by omega)
                unfold gok at this
                dsimp only at this
                rw [if_pos hk] at this
                exact (eq_of_beq this).symm
              · have := hb e he
                unfold gok at this
                dsimp only at this
                rw [if_neg (Nat.lt_irrefl e), if_pos rfl] at this
                exact (eq_of_beq this).symm
            rw [h9'']
            have no : (∀ b, OKf F L b → cst F D b = m → (∀ k, k < e → b k = G k) → b e ≠ w) → ∀ x, x = nI w + 1 → k2 x S4 := by
              intro hno x hx
              refine hk2 _ _ hx ⟨hf4', fun k hk hke => ?_, fun b hb1 hb2 hb3 => ?_⟩
              · rw [frX_g hf4 51 k (by decide), gI_sI, if_neg (fun q => hke q.2)]; exact j1 k hk hke
              · have a1 := j2 b hb1 hb2 hb3
                have a2 := hno b hb1 hb2 hb3
                omega
            by_cases hd2 : d < 1000
            · rw [if_pos hd2]
              obtain ⟨b, hb1, hb2, hb3⟩ := hdm2.2 hd2
              obtain ⟨b4, b5⟩ := hgk2 b hb2
              refine nI_ifEq (by omega) (by omega) (fun c => ?_) (fun c => no (fun b' hb1' hb2' hb3' hb4' => ?_))
              · intro x hx
                refine hkk _ _ hx ⟨frX_trans hf (frX_sub hf4' (by simp)), MD_fr hf4' (by simp) hM, h9'', fun k => if k = e then w else G k, h51', ⟨b, hb1, by omega, fun k hk => ?_⟩, fun b' hb1' hb2' k hk ho => ?_⟩
                · dsimp only
                  by_cases q : k = e
                  · subst q; rw [if_pos rfl]; exact b5
                  · rw [if_neg q]; exact b4 k (by omega)
                · dsimp only at ho ⊢
                  by_cases q : k = e
                  · subst q
                    rw [if_pos rfl]
                    refine j2 b' hb1' hb2' (fun o ho' => ?_)
                    have := ho o ho'
                    rw [if_neg (by omega)] at this
                    exact this
                  · rw [if_neg q]
                    refine i3 b' hb1' hb2' k (by omega) (fun o ho' => ?_)
                    have := ho o ho'
                    rw [if_neg (by omega)] at this
                    exact this
              · have a1 := (hdm2.1 b' hb1' (hgk b' hb3' hb4')).1
                have a2 := hmin b hb1
                omega
            · rw [if_neg hd2, if_neg (show ¬ (-1 : Int32) = nI m from fun q => nI_pos (n := m) (by omega) (by rw [← q]; decide))]
              refine no (fun b' hb1' hb2' hb3' hb4' => ?_)
              have a1 := hdm2.1 b' hb1' (hgk b' hb3' hb4')
              omega
        · rintro k2 S2 ⟨hf2, j1, j2⟩
          have a1 := j2 a ha1 ha2 ha3
          have a2 := (ha1 e he).1
          omega
      · rintro kk S' ⟨hf, hM, h9', G, i1, ⟨a, ha1, ha2, ha3⟩, i3⟩
        unfold b_X6_settle_48
        rw [hM.1.1 0 (by omega), if_pos (nI_le (Nat.le_refl _) (by omega))]
        refine hQ S' hf (Or.inr ⟨hn7, m, G, ⟨fun e he => ?_, ?_, hmin, i3⟩, h9', fun e he => ?_⟩)
        · obtain ⟨p1, p2⟩ := ha1 e he
          rw [← ha3 e he]
          exact ⟨p1, fun o ho => by rw [← ha3 o (by omega)]; exact p2 o ho⟩
        · rw [← ha2]
          exact smW_congr _ (fun e he => by rw [ha3 e he])
        · rw [i1 e he, if_pos he]; rfl
      · exact ⟨a0, ha0, hm, fun k hk => absurd hk (Nat.not_lt_zero _)⟩
    · have h9 : gI S7 50 9 = -1 := by rw [hS7, gI_sI, if_pos ⟨rfl, rfl⟩, if_neg hd]
      have hres : Q S7 := hQ S7 (frX_trans hf5 (frX_sub hf7 (by simp))) (Or.inl ⟨h9, Or.inr (fun a ha => by
        have := hdm.1 a ha (fun e _ => rfl)
        omega)⟩)
      have hM7 := MD_fr hf7 (by simp) hMD
      have hn0 := hF.1.1
      refine loopG1 (B := b_X6_settle_48 Q) (fun _ v S' => S' = S7 ∧ v = nI 0) ?_ 0 _ ⟨rfl, rfl⟩
      rintro kk _ v S' ⟨rfl, rfl⟩ _
      unfold b_X6_settle_48
      rw [hM7.1.1 0 (by omega), if_neg (nI_ge (by omega) (by omega)), h9, if_pos rfl]
      exact hres
  · rw [if_neg (fun q => hn7 ((i7 hn).1.mp q))]
    exact hQ S1 (frX_sub hf1 (by simp)) (Or.inl ⟨by rw [hS1, gI_sI, if_pos ⟨rfl, rfl⟩], Or.inl (by omega)⟩)
theorem e_howMany6 {F : Fm} {L : Nat → Nat} {D : Dr} {S : St} {Q : Int32 → St → Prop} (hF : FW F) (hD : DW F D) (hE : FE 21 F S) (hZ : EZ F L S) (hDE : DE 30 D S) (hI : MI F L D S)
    (hQ : ∀ S', frX mcl S S' → MRes F L D S' → Q (gI S' 50 9) S') : w_X6_howMany S Q := by
  unfold w_X6_howMany
  by_cases c : gI S 50 8 = 0
  · rw [if_pos c]
    refine e_settle hF hD hE hZ hDE ?_
    intro S1 h1 h2 S2 hS2
    subst hS2
    refine hQ _ (frX_sI h1 (by decide)) ?_
    have g9 : gI (sI S1 50 8 1) 50 9 = gI S1 50 9 := by rw [gI_sI, if_neg (by omega)]
    have g51 : ∀ e, gI (sI S1 50 8 1) 51 e = gI S1 51 e := fun e => by rw [gI_sI, if_neg (by omega)]
    unfold MRes at *
    simp only [g9, g51]
    exact h2
  · rw [if_neg c]
    exact hQ S (frX_refl _ _) (hI.resolve_left c)
