/-! ===== which cell is what, by number (in the order in which the constructors make them), and where the references that never change go ===== -/
def shEL : List (Nat × Nat) := [(11, 0), (10, 0), (13, 1000), (14, 1001), (14, 1001), (15, 1001), (15, 24), (8, 0), (0, 0), (14, 1000), (14, 32), (4, 0), (14, 12), (14, 12), (14, 12), (14, 12), (14, 12), (14, 12), (14, 12), (14, 12), (15, 12), (4, 0), (14, 12), (14, 12), (14, 12), (14, 12), (14, 12), (14, 12), (14, 12), (14, 12), (2, 0), (14, 60), (14, 60), (14, 60), (9, 0), (1, 0), (14, 12), (14, 12), (14, 12), (14, 12), (14, 144), (14, 12), (14, 12), (3, 0), (14, 7), (14, 96), (14, 49), (14, 7), (14, 7), (14, 49), (6, 0), (14, 7), (14, 84), (14, 12), (14, 128), (14, 128), (7, 0), (14, 12), (14, 12), (14, 12), (14, 12), (1, 0), (14, 12), (17, 4), (5, 0), (4, 0), (14, 12), (14, 12), (14, 12), (14, 12), (14, 12), (14, 12), (14, 12), (14, 12), (2, 0), (14, 60), (14, 60), (14, 60), (5, 0), (4, 0), (14, 12), (14, 12), (14, 12), (14, 12), (14, 12), (14, 12), (14, 12), (14, 12), (2, 0), (14, 60), (14, 60), (14, 60), (5, 0), (4, 0), (14, 12), (14, 12), (14, 12), (14, 12), (14, 12), (14, 12), (14, 12), (14, 12), (2, 0), (14, 60), (14, 60), (14, 60), (5, 0), (4, 0), (14, 12), (14, 12), (14, 12), (14, 12), (14, 12), (14, 12), (14, 12), (14, 12), (2, 0), (14, 60), (14, 60), (14, 60), (1, 0), (14, 200), (14, 200)]
def shE (i : Nat) : Nat × Nat := shEL.getD i (99, 0)
abbrev NE : Nat := 123
abbrev lnE (i : Nat) : Nat := (shE i).2
def R0EL : List (List (Option Nat)) := [[some 1, some 7, some 21, some 30, some 34, some 43, some 50, some 56, some 63, some 120, some 122], [some 2, some 3, some 4, some 5, some 6], [], [], [], [], [], [some 1, some 8, some 11, some 20], [some 9, none, some 10], [], [], [none, none, none, none, none, none, none, some 12, some 13, some 14, some 15, some 16, some 17, some 18, some 19], [], [], [], [], [], [], [], [], [], [none, none, none, none, none, none, none, some 22, some 23, some 24, some 25, some 26, some 27, some 28, some 29], [], [], [], [], [], [], [], [], [some 31, some 32, some 33], [], [], [], [some 35, some 37, some 38, some 39, some 40, some 41, some 42], [some 36], [], [], [], [], [], [], [], [some 21, some 34, some 44, some 45, some 46, some 47, some 48, some 49], [], [], [], [], [], [], [some 21, some 34, some 30, some 51, some 52, some 53, some 54, some 55], [], [], [], [], [], [some 57, some 58, some 59, some 60, some 61, some 21, some 21], [], [], [], [], [some 62], [], [some 64, some 78, some 92, some 106], [some 65, some 74], [none, none, none, none, none, none, none, some 66, some 67, some 68, some 69, some 70, some 71, some 72, some 73], [], [], [], [], [], [], [], [], [some 75, some 76, some 77], [], [], [], [some 79, some 88], [none, none, none, none, none, none, none, some 80, some 81, some 82, some 83, some 84, some 85, some 86, some 87], [], [], [], [], [], [], [], [], [some 89, some 90, some 91], [], [], [], [some 93, some 102], [none, none, none, none, none, none, none, some 94, some 95, some 96, some 97, some 98, some 99, some 100, some 101], [], [], [], [], [], [], [], [], [some 103, some 104, some 105], [], [], [], [some 107, some 116], [none, none, none, none, none, none, none, some 108, some 109, some 110, some 111, some 112, some 113, some 114, some 115], [], [], [], [], [], [], [], [], [some 117, some 118, some 119], [], [], [], [some 121], [], []]
def R0E (a k : Nat) : Option Nat := (R0EL.getD a []).getD k none
def RCE (S : St) : Prop := ∀ a k, ¬ (a = 56 ∧ k = 6) → gR S a k = R0E a k
theorem rcER {S S1 : St} {v : Option Nat} (e : S1 = sR S 56 6 v) (h : RCE S) : RCE S1 := by subst e; intro b j hn; rw [gR_sR, if_neg hn]; exact h b j hn
theorem rcE {S S1 : St} {a k : Nat} {v : Int32} (e : S1 = sI S a k v) (h : RCE S) : RCE S1 := by subst e; exact h
theorem rcEJ {S S1 : St} {a k : Nat} {v : Int64} (e : S1 = sJ S a k v) (h : RCE S) : RCE S1 := by subst e; exact h
def isE1 (o : Nat) : Prop := o = 35 ∨ o = 61 ∨ o = 120
theorem isE1_35 : isE1 35 := Or.inl rfl
theorem isE1_61 : isE1 61 := Or.inr (Or.inl rfl)
theorem isE1_120 : isE1 120 := Or.inr (Or.inr (rfl))
theorem oE1 {o : Nat} (h : isE1 o) : ok shE NE o 1 0 := by rcases h with rfl | rfl | rfl <;> exact ⟨by decide, rfl⟩
theorem oE1_0 {o : Nat} (h : isE1 o) : ok shE NE (o + 1) 14 (lnE (o + 1)) := by rcases h with rfl | rfl | rfl <;> exact ⟨by decide, rfl⟩
theorem rE1_0 {S : St} (hR : RCE S) {o : Nat} (h : isE1 o) : gR S o 0 = some (o + 1) := by rcases h with rfl | rfl | rfl <;> exact (hR _ _ (by decide)).trans rfl
def isE2 (o : Nat) : Prop := o = 30 ∨ o = 74 ∨ o = 88 ∨ o = 102 ∨ o = 116
theorem isE2_30 : isE2 30 := Or.inl rfl
theorem isE2_74 : isE2 74 := Or.inr (Or.inl rfl)
theorem isE2_88 : isE2 88 := Or.inr (Or.inr (Or.inl rfl))
theorem isE2_102 : isE2 102 := Or.inr (Or.inr (Or.inr (Or.inl rfl)))
theorem isE2_116 : isE2 116 := Or.inr (Or.inr (Or.inr (Or.inr (rfl))))
theorem oE2 {o : Nat} (h : isE2 o) : ok shE NE o 2 0 := by rcases h with rfl | rfl | rfl | rfl | rfl <;> exact ⟨by decide, rfl⟩
theorem oE2_0 {o : Nat} (h : isE2 o) : ok shE NE (o + 1) 14 60 := by rcases h with rfl | rfl | rfl | rfl | rfl <;> exact ⟨by decide, rfl⟩
theorem rE2_0 {S : St} (hR : RCE S) {o : Nat} (h : isE2 o) : gR S o 0 = some (o + 1) := by rcases h with rfl | rfl | rfl | rfl | rfl <;> exact (hR _ _ (by decide)).trans rfl
theorem oE2_1 {o : Nat} (h : isE2 o) : ok shE NE (o + 2) 14 60 := by rcases h with rfl | rfl | rfl | rfl | rfl <;> exact ⟨by decide, rfl⟩
theorem rE2_1 {S : St} (hR : RCE S) {o : Nat} (h : isE2 o) : gR S o 1 = some (o + 2) := by rcases h with rfl | rfl | rfl | rfl | rfl <;> exact (hR _ _ (by decide)).trans rfl
theorem oE2_2 {o : Nat} (h : isE2 o) : ok shE NE (o + 3) 14 60 := by rcases h with rfl | rfl | rfl | rfl | rfl <;> exact ⟨by decide, rfl⟩
theorem rE2_2 {S : St} (hR : RCE S) {o : Nat} (h : isE2 o) : gR S o 2 = some (o + 3) := by rcases h with rfl | rfl | rfl | rfl | rfl <;> exact (hR _ _ (by decide)).trans rfl
def isE4 (o : Nat) : Prop := o = 11 ∨ o = 21 ∨ o = 65 ∨ o = 79 ∨ o = 93 ∨ o = 107
theorem isE4_11 : isE4 11 := Or.inl rfl
theorem isE4_21 : isE4 21 := Or.inr (Or.inl rfl)
theorem isE4_65 : isE4 65 := Or.inr (Or.inr (Or.inl rfl))
theorem isE4_79 : isE4 79 := Or.inr (Or.inr (Or.inr (Or.inl rfl)))
theorem isE4_93 : isE4 93 := Or.inr (Or.inr (Or.inr (Or.inr (Or.inl rfl))))
theorem isE4_107 : isE4 107 := Or.inr (Or.inr (Or.inr (Or.inr (Or.inr (rfl)))))
theorem oE4 {o : Nat} (h : isE4 o) : ok shE NE o 4 0 := by rcases h with rfl | rfl | rfl | rfl | rfl | rfl <;> exact ⟨by decide, rfl⟩
theorem oE4_7 {o : Nat} (h : isE4 o) : ok shE NE (o + 1) 14 12 := by rcases h with rfl | rfl | rfl | rfl | rfl | rfl <;> exact ⟨by decide, rfl⟩
theorem rE4_7 {S : St} (hR : RCE S) {o : Nat} (h : isE4 o) : gR S o 7 = some (o + 1) := by rcases h with rfl | rfl | rfl | rfl | rfl | rfl <;> exact (hR _ _ (by decide)).trans rfl
theorem oE4_8 {o : Nat} (h : isE4 o) : ok shE NE (o + 2) 14 12 := by rcases h with rfl | rfl | rfl | rfl | rfl | rfl <;> exact ⟨by decide, rfl⟩
theorem rE4_8 {S : St} (hR : RCE S) {o : Nat} (h : isE4 o) : gR S o 8 = some (o + 2) := by rcases h with rfl | rfl | rfl | rfl | rfl | rfl <;> exact (hR _ _ (by decide)).trans rfl
theorem oE4_9 {o : Nat} (h : isE4 o) : ok shE NE (o + 3) 14 12 := by rcases h with rfl | rfl | rfl | rfl | rfl | rfl <;> exact ⟨by decide, rfl⟩
theorem rE4_9 {S : St} (hR : RCE S) {o : Nat} (h : isE4 o) : gR S o 9 = some (o + 3) := by rcases h with rfl | rfl | rfl | rfl | rfl | rfl <;> exact (hR _ _ (by decide)).trans rfl
theorem oE4_10 {o : Nat} (h : isE4 o) : ok shE NE (o + 4) 14 12 := by rcases h with rfl | rfl | rfl | rfl | rfl | rfl <;> exact ⟨by decide, rfl⟩
theorem rE4_10 {S : St} (hR : RCE S) {o : Nat} (h : isE4 o) : gR S o 10 = some (o + 4) := by rcases h with rfl | rfl | rfl | rfl | rfl | rfl <;> exact (hR _ _ (by decide)).trans rfl
theorem oE4_11 {o : Nat} (h : isE4 o) : ok shE NE (o + 5) 14 12 := by rcases h with rfl | rfl | rfl | rfl | rfl | rfl <;> exact ⟨by decide, rfl⟩
theorem rE4_11 {S : St} (hR : RCE S) {o : Nat} (h : isE4 o) : gR S o 11 = some (o + 5) := by rcases h with rfl | rfl | rfl | rfl | rfl | rfl <;> exact (hR _ _ (by decide)).trans rfl
theorem oE4_12 {o : Nat} (h : isE4 o) : ok shE NE (o + 6) 14 12 := by rcases h with rfl | rfl | rfl | rfl | rfl | rfl <;> exact ⟨by decide, rfl⟩
theorem rE4_12 {S : St} (hR : RCE S) {o : Nat} (h : isE4 o) : gR S o 12 = some (o + 6) := by rcases h with rfl | rfl | rfl | rfl | rfl | rfl <;> exact (hR _ _ (by decide)).trans rfl
theorem oE4_13 {o : Nat} (h : isE4 o) : ok shE NE (o + 7) 14 12 := by rcases h with rfl | rfl | rfl | rfl | rfl | rfl <;> exact ⟨by decide, rfl⟩
theorem rE4_13 {S : St} (hR : RCE S) {o : Nat} (h : isE4 o) : gR S o 13 = some (o + 7) := by rcases h with rfl | rfl | rfl | rfl | rfl | rfl <;> exact (hR _ _ (by decide)).trans rfl
theorem oE4_14 {o : Nat} (h : isE4 o) : ok shE NE (o + 8) 14 12 := by rcases h with rfl | rfl | rfl | rfl | rfl | rfl <;> exact ⟨by decide, rfl⟩
theorem rE4_14 {S : St} (hR : RCE S) {o : Nat} (h : isE4 o) : gR S o 14 = some (o + 8) := by rcases h with rfl | rfl | rfl | rfl | rfl | rfl <;> exact (hR _ _ (by decide)).trans rfl
def isE5 (o : Nat) : Prop := o = 64 ∨ o = 78 ∨ o = 92 ∨ o = 106
theorem isE5_64 : isE5 64 := Or.inl rfl
theorem isE5_78 : isE5 78 := Or.inr (Or.inl rfl)
theorem isE5_92 : isE5 92 := Or.inr (Or.inr (Or.inl rfl))
theorem isE5_106 : isE5 106 := Or.inr (Or.inr (Or.inr (rfl)))
theorem oE5 {o : Nat} (h : isE5 o) : ok shE NE o 5 0 := by rcases h with rfl | rfl | rfl | rfl <;> exact ⟨by decide, rfl⟩
theorem oE5_0 {o : Nat} (h : isE5 o) : ok shE NE (o + 1) 4 0 := by rcases h with rfl | rfl | rfl | rfl <;> exact ⟨by decide, rfl⟩
theorem iE5_0 {o : Nat} (h : isE5 o) : isE4 (o + 1) := by rcases h with rfl | rfl | rfl | rfl <;> first | exact isE4_11 | exact isE4_21 | exact isE4_65 | exact isE4_79 | exact isE4_93 | exact isE4_107
theorem rE5_0 {S : St} (hR : RCE S) {o : Nat} (h : isE5 o) : gR S o 0 = some (o + 1) := by rcases h with rfl | rfl | rfl | rfl <;> exact (hR _ _ (by decide)).trans rfl
theorem oE5_1 {o : Nat} (h : isE5 o) : ok shE NE (o + 10) 2 0 := by rcases h with rfl | rfl | rfl | rfl <;> exact ⟨by decide, rfl⟩
theorem iE5_1 {o : Nat} (h : isE5 o) : isE2 (o + 10) := by rcases h with rfl | rfl | rfl | rfl <;> first | exact isE2_30 | exact isE2_74 | exact isE2_88 | exact isE2_102 | exact isE2_116
theorem rE5_1 {S : St} (hR : RCE S) {o : Nat} (h : isE5 o) : gR S o 1 = some (o + 10) := by rcases h with rfl | rfl | rfl | rfl <;> exact (hR _ _ (by decide)).trans rfl
theorem kE_0 : ok shE NE 0 11 0 := ⟨by decide, rfl⟩
theorem kE_1 : ok shE NE 1 10 0 := ⟨by decide, rfl⟩
theorem kE_2 : ok shE NE 2 13 1000 := ⟨by decide, rfl⟩
theorem kE_3 : ok shE NE 3 14 1001 := ⟨by decide, rfl⟩
theorem kE_4 : ok shE NE 4 14 1001 := ⟨by decide, rfl⟩
theorem kE_5 : ok shE NE 5 15 1001 := ⟨by decide, rfl⟩
theorem kE_6 : ok shE NE 6 15 24 := ⟨by decide, rfl⟩
theorem kE_7 : ok shE NE 7 8 0 := ⟨by decide, rfl⟩
theorem kE_8 : ok shE NE 8 0 0 := ⟨by decide, rfl⟩
theorem kE_9 : ok shE NE 9 14 1000 := ⟨by decide, rfl⟩
theorem kE_10 : ok shE NE 10 14 32 := ⟨by decide, rfl⟩
theorem kE_11 : ok shE NE 11 4 0 := ⟨by decide, rfl⟩
theorem kE_12 : ok shE NE 12 14 12 := ⟨by decide, rfl⟩
theorem kE_13 : ok shE NE 13 14 12 := ⟨by decide, rfl⟩
theorem kE_14 : ok shE NE 14 14 12 := ⟨by decide, rfl⟩
theorem kE_15 : ok shE NE 15 14 12 := ⟨by decide, rfl⟩
theorem kE_16 : ok shE NE 16 14 12 := ⟨by decide, rfl⟩
theorem kE_17 : ok shE NE 17 14 12 := ⟨by decide, rfl⟩
theorem kE_18 : ok shE NE 18 14 12 := ⟨by decide, rfl⟩
theorem kE_19 : ok shE NE 19 14 12 := ⟨by decide, rfl⟩
theorem kE_20 : ok shE NE 20 15 12 := ⟨by decide, rfl⟩
theorem kE_21 : ok shE NE 21 4 0 := ⟨by decide, rfl⟩
theorem kE_22 : ok shE NE 22 14 12 := ⟨by decide, rfl⟩
theorem kE_23 : ok shE NE 23 14 12 := ⟨by decide, rfl⟩
theorem kE_24 : ok shE NE 24 14 12 := ⟨by decide, rfl⟩
theorem kE_25 : ok shE NE 25 14 12 := ⟨by decide, rfl⟩
theorem kE_26 : ok shE NE 26 14 12 := ⟨by decide, rfl⟩
theorem kE_27 : ok shE NE 27 14 12 := ⟨by decide, rfl⟩
theorem kE_28 : ok shE NE 28 14 12 := ⟨by decide, rfl⟩
theorem kE_29 : ok shE NE 29 14 12 := ⟨by decide, rfl⟩
theorem kE_30 : ok shE NE 30 2 0 := ⟨by decide, rfl⟩
theorem kE_31 : ok shE NE 31 14 60 := ⟨by decide, rfl⟩
theorem kE_32 : ok shE NE 32 14 60 := ⟨by decide, rfl⟩
theorem kE_33 : ok shE NE 33 14 60 := ⟨by decide, rfl⟩
theorem kE_34 : ok shE NE 34 9 0 := ⟨by decide, rfl⟩
theorem kE_35 : ok shE NE 35 1 0 := ⟨by decide, rfl⟩
theorem kE_36 : ok shE NE 36 14 12 := ⟨by decide, rfl⟩
theorem kE_37 : ok shE NE 37 14 12 := ⟨by decide, rfl⟩
theorem kE_38 : ok shE NE 38 14 12 := ⟨by decide, rfl⟩
theorem kE_39 : ok shE NE 39 14 12 := ⟨by decide, rfl⟩
theorem kE_40 : ok shE NE 40 14 144 := ⟨by decide, rfl⟩
theorem kE_41 : ok shE NE 41 14 12 := ⟨by decide, rfl⟩
theorem kE_42 : ok shE NE 42 14 12 := ⟨by decide, rfl⟩
theorem kE_43 : ok shE NE 43 3 0 := ⟨by decide, rfl⟩
theorem kE_44 : ok shE NE 44 14 7 := ⟨by decide, rfl⟩
theorem kE_45 : ok shE NE 45 14 96 := ⟨by decide, rfl⟩
theorem kE_46 : ok shE NE 46 14 49 := ⟨by decide, rfl⟩
theorem kE_47 : ok shE NE 47 14 7 := ⟨by decide, rfl⟩
theorem kE_48 : ok shE NE 48 14 7 := ⟨by decide, rfl⟩
theorem kE_49 : ok shE NE 49 14 49 := ⟨by decide, rfl⟩
theorem kE_50 : ok shE NE 50 6 0 := ⟨by decide, rfl⟩
theorem kE_51 : ok shE NE 51 14 7 := ⟨by decide, rfl⟩
theorem kE_52 : ok shE NE 52 14 84 := ⟨by decide, rfl⟩
theorem kE_53 : ok shE NE 53 14 12 := ⟨by decide, rfl⟩
theorem kE_54 : ok shE NE 54 14 128 := ⟨by decide, rfl⟩
theorem kE_55 : ok shE NE 55 14 128 := ⟨by decide, rfl⟩
theorem kE_56 : ok shE NE 56 7 0 := ⟨by decide, rfl⟩
theorem kE_57 : ok shE NE 57 14 12 := ⟨by decide, rfl⟩
theorem kE_58 : ok shE NE 58 14 12 := ⟨by decide, rfl⟩
theorem kE_59 : ok shE NE 59 14 12 := ⟨by decide, rfl⟩
theorem kE_60 : ok shE NE 60 14 12 := ⟨by decide, rfl⟩
theorem kE_61 : ok shE NE 61 1 0 := ⟨by decide, rfl⟩
theorem kE_62 : ok shE NE 62 14 12 := ⟨by decide, rfl⟩
theorem kE_63 : ok shE NE 63 17 4 := ⟨by decide, rfl⟩
theorem kE_64 : ok shE NE 64 5 0 := ⟨by decide, rfl⟩
theorem kE_65 : ok shE NE 65 4 0 := ⟨by decide, rfl⟩
theorem kE_66 : ok shE NE 66 14 12 := ⟨by decide, rfl⟩
theorem kE_67 : ok shE NE 67 14 12 := ⟨by decide, rfl⟩
theorem kE_68 : ok shE NE 68 14 12 := ⟨by decide, rfl⟩
theorem kE_69 : ok shE NE 69 14 12 := ⟨by decide, rfl⟩
theorem kE_70 : ok shE NE 70 14 12 := ⟨by decide, rfl⟩
theorem kE_71 : ok shE NE 71 14 12 := ⟨by decide, rfl⟩
theorem kE_72 : ok shE NE 72 14 12 := ⟨by decide, rfl⟩
theorem kE_73 : ok shE NE 73 14 12 := ⟨by decide, rfl⟩
theorem kE_74 : ok shE NE 74 2 0 := ⟨by decide, rfl⟩
theorem kE_75 : ok shE NE 75 14 60 := ⟨by decide, rfl⟩
theorem kE_76 : ok shE NE 76 14 60 := ⟨by decide, rfl⟩
theorem kE_77 : ok shE NE 77 14 60 := ⟨by decide, rfl⟩
theorem kE_78 : ok shE NE 78 5 0 := ⟨by decide, rfl⟩
theorem kE_79 : ok shE NE 79 4 0 := ⟨by decide, rfl⟩
theorem kE_80 : ok shE NE 80 14 12 := ⟨by decide, rfl⟩
theorem kE_81 : ok shE NE 81 14 12 := ⟨by decide, rfl⟩
theorem kE_82 : ok shE NE 82 14 12 := ⟨by decide, rfl⟩
theorem kE_83 : ok shE NE 83 14 12 := ⟨by decide, rfl⟩
theorem kE_84 : ok shE NE 84 14 12 := ⟨by decide, rfl⟩
theorem kE_85 : ok shE NE 85 14 12 := ⟨by decide, rfl⟩
theorem kE_86 : ok shE NE 86 14 12 := ⟨by decide, rfl⟩
theorem kE_87 : ok shE NE 87 14 12 := ⟨by decide, rfl⟩
theorem kE_88 : ok shE NE 88 2 0 := ⟨by decide, rfl⟩
theorem kE_89 : ok shE NE 89 14 60 := ⟨by decide, rfl⟩
theorem kE_90 : ok shE NE 90 14 60 := ⟨by decide, rfl⟩
theorem kE_91 : ok shE NE 91 14 60 := ⟨by decide, rfl⟩
theorem kE_92 : ok shE NE 92 5 0 := ⟨by decide, rfl⟩
theorem kE_93 : ok shE NE 93 4 0 := ⟨by decide, rfl⟩
theorem kE_94 : ok shE NE 94 14 12 := ⟨by decide, rfl⟩
theorem kE_95 : ok shE NE 95 14 12 := ⟨by decide, rfl⟩
theorem kE_96 : ok shE NE 96 14 12 := ⟨by decide, rfl⟩
theorem kE_97 : ok shE NE 97 14 12 := ⟨by decide, rfl⟩
theorem kE_98 : ok shE NE 98 14 12 := ⟨by decide, rfl⟩
theorem kE_99 : ok shE NE 99 14 12 := ⟨by decide, rfl⟩
theorem kE_100 : ok shE NE 100 14 12 := ⟨by decide, rfl⟩
theorem kE_101 : ok shE NE 101 14 12 := ⟨by decide, rfl⟩
theorem kE_102 : ok shE NE 102 2 0 := ⟨by decide, rfl⟩
theorem kE_103 : ok shE NE 103 14 60 := ⟨by decide, rfl⟩
theorem kE_104 : ok shE NE 104 14 60 := ⟨by decide, rfl⟩
theorem kE_105 : ok shE NE 105 14 60 := ⟨by decide, rfl⟩
theorem kE_106 : ok shE NE 106 5 0 := ⟨by decide, rfl⟩
theorem kE_107 : ok shE NE 107 4 0 := ⟨by decide, rfl⟩
theorem kE_108 : ok shE NE 108 14 12 := ⟨by decide, rfl⟩
theorem kE_109 : ok shE NE 109 14 12 := ⟨by decide, rfl⟩
theorem kE_110 : ok shE NE 110 14 12 := ⟨by decide, rfl⟩
theorem kE_111 : ok shE NE 111 14 12 := ⟨by decide, rfl⟩
theorem kE_112 : ok shE NE 112 14 12 := ⟨by decide, rfl⟩
theorem kE_113 : ok shE NE 113 14 12 := ⟨by decide, rfl⟩
theorem kE_114 : ok shE NE 114 14 12 := ⟨by decide, rfl⟩
theorem kE_115 : ok shE NE 115 14 12 := ⟨by decide, rfl⟩
theorem kE_116 : ok shE NE 116 2 0 := ⟨by decide, rfl⟩
theorem kE_117 : ok shE NE 117 14 60 := ⟨by decide, rfl⟩
theorem kE_118 : ok shE NE 118 14 60 := ⟨by decide, rfl⟩
theorem kE_119 : ok shE NE 119 14 60 := ⟨by decide, rfl⟩
theorem kE_120 : ok shE NE 120 1 0 := ⟨by decide, rfl⟩
theorem kE_121 : ok shE NE 121 14 200 := ⟨by decide, rfl⟩
theorem kE_122 : ok shE NE 122 14 200 := ⟨by decide, rfl⟩
theorem rE_0_0 {S : St} (hR : RCE S) : gR S 0 0 = some 1 := (hR _ _ (by decide)).trans rfl
theorem rE_0_1 {S : St} (hR : RCE S) : gR S 0 1 = some 7 := (hR _ _ (by decide)).trans rfl
theorem rE_0_2 {S : St} (hR : RCE S) : gR S 0 2 = some 21 := (hR _ _ (by decide)).trans rfl
theorem rE_0_3 {S : St} (hR : RCE S) : gR S 0 3 = some 30 := (hR _ _ (by decide)).trans rfl
theorem rE_0_4 {S : St} (hR : RCE S) : gR S 0 4 = some 34 := (hR _ _ (by decide)).trans rfl
theorem rE_0_5 {S : St} (hR : RCE S) : gR S 0 5 = some 43 := (hR _ _ (by decide)).trans rfl
theorem rE_0_6 {S : St} (hR : RCE S) : gR S 0 6 = some 50 := (hR _ _ (by decide)).trans rfl
theorem rE_0_7 {S : St} (hR : RCE S) : gR S 0 7 = some 56 := (hR _ _ (by decide)).trans rfl
theorem rE_0_8 {S : St} (hR : RCE S) : gR S 0 8 = some 63 := (hR _ _ (by decide)).trans rfl
theorem rE_0_9 {S : St} (hR : RCE S) : gR S 0 9 = some 120 := (hR _ _ (by decide)).trans rfl
theorem rE_0_10 {S : St} (hR : RCE S) : gR S 0 10 = some 122 := (hR _ _ (by decide)).trans rfl
theorem rE_1_0 {S : St} (hR : RCE S) : gR S 1 0 = some 2 := (hR _ _ (by decide)).trans rfl
theorem rE_1_1 {S : St} (hR : RCE S) : gR S 1 1 = some 3 := (hR _ _ (by decide)).trans rfl
theorem rE_1_2 {S : St} (hR : RCE S) : gR S 1 2 = some 4 := (hR _ _ (by decide)).trans rfl
theorem rE_1_3 {S : St} (hR : RCE S) : gR S 1 3 = some 5 := (hR _ _ (by decide)).trans rfl
theorem rE_1_4 {S : St} (hR : RCE S) : gR S 1 4 = some 6 := (hR _ _ (by decide)).trans rfl
theorem rE_7_0 {S : St} (hR : RCE S) : gR S 7 0 = some 1 := (hR _ _ (by decide)).trans rfl
theorem rE_7_1 {S : St} (hR : RCE S) : gR S 7 1 = some 8 := (hR _ _ (by decide)).trans rfl
theorem rE_7_2 {S : St} (hR : RCE S) : gR S 7 2 = some 11 := (hR _ _ (by decide)).trans rfl
theorem rE_7_3 {S : St} (hR : RCE S) : gR S 7 3 = some 20 := (hR _ _ (by decide)).trans rfl
theorem rE_8_0 {S : St} (hR : RCE S) : gR S 8 0 = some 9 := (hR _ _ (by decide)).trans rfl
theorem rE_8_2 {S : St} (hR : RCE S) : gR S 8 2 = some 10 := (hR _ _ (by decide)).trans rfl
theorem rE_11_7 {S : St} (hR : RCE S) : gR S 11 7 = some 12 := (hR _ _ (by decide)).trans rfl
theorem rE_11_8 {S : St} (hR : RCE S) : gR S 11 8 = some 13 := (hR _ _ (by decide)).trans rfl
theorem rE_11_9 {S : St} (hR : RCE S) : gR S 11 9 = some 14 := (hR _ _ (by decide)).trans rfl
theorem rE_11_10 {S : St} (hR : RCE S) : gR S 11 10 = some 15 := (hR _ _ (by decide)).trans rfl
theorem rE_11_11 {S : St} (hR : RCE S) : gR S 11 11 = some 16 := (hR _ _ (by decide)).trans rfl
theorem rE_11_12 {S : St} (hR : RCE S) : gR S 11 12 = some 17 := (hR _ _ (by decide)).trans rfl
theorem rE_11_13 {S : St} (hR : RCE S) : gR S 11 13 = some 18 := (hR _ _ (by decide)).trans rfl
theorem rE_11_14 {S : St} (hR : RCE S) : gR S 11 14 = some 19 := (hR _ _ (by decide)).trans rfl
theorem rE_21_7 {S : St} (hR : RCE S) : gR S 21 7 = some 22 := (hR _ _ (by decide)).trans rfl
theorem rE_21_8 {S : St} (hR : RCE S) : gR S 21 8 = some 23 := (hR _ _ (by decide)).trans rfl
theorem rE_21_9 {S : St} (hR : RCE S) : gR S 21 9 = some 24 := (hR _ _ (by decide)).trans rfl
theorem rE_21_10 {S : St} (hR : RCE S) : gR S 21 10 = some 25 := (hR _ _ (by decide)).trans rfl
theorem rE_21_11 {S : St} (hR : RCE S) : gR S 21 11 = some 26 := (hR _ _ (by decide)).trans rfl
theorem rE_21_12 {S : St} (hR : RCE S) : gR S 21 12 = some 27 := (hR _ _ (by decide)).trans rfl
theorem rE_21_13 {S : St} (hR : RCE S) : gR S 21 13 = some 28 := (hR _ _ (by decide)).trans rfl
theorem rE_21_14 {S : St} (hR : RCE S) : gR S 21 14 = some 29 := (hR _ _ (by decide)).trans rfl
theorem rE_30_0 {S : St} (hR : RCE S) : gR S 30 0 = some 31 := (hR _ _ (by decide)).trans rfl
theorem rE_30_1 {S : St} (hR : RCE S) : gR S 30 1 = some 32 := (hR _ _ (by decide)).trans rfl
theorem rE_30_2 {S : St} (hR : RCE S) : gR S 30 2 = some 33 := (hR _ _ (by decide)).trans rfl
theorem rE_34_0 {S : St} (hR : RCE S) : gR S 34 0 = some 35 := (hR _ _ (by decide)).trans rfl
theorem rE_34_1 {S : St} (hR : RCE S) : gR S 34 1 = some 37 := (hR _ _ (by decide)).trans rfl
theorem rE_34_2 {S : St} (hR : RCE S) : gR S 34 2 = some 38 := (hR _ _ (by decide)).trans rfl
theorem rE_34_3 {S : St} (hR : RCE S) : gR S 34 3 = some 39 := (hR _ _ (by decide)).trans rfl
theorem rE_34_4 {S : St} (hR : RCE S) : gR S 34 4 = some 40 := (hR _ _ (by decide)).trans rfl
theorem rE_34_5 {S : St} (hR : RCE S) : gR S 34 5 = some 41 := (hR _ _ (by decide)).trans rfl
theorem rE_34_6 {S : St} (hR : RCE S) : gR S 34 6 = some 42 := (hR _ _ (by decide)).trans rfl
theorem rE_35_0 {S : St} (hR : RCE S) : gR S 35 0 = some 36 := (hR _ _ (by decide)).trans rfl
theorem rE_43_0 {S : St} (hR : RCE S) : gR S 43 0 = some 21 := (hR _ _ (by decide)).trans rfl
theorem rE_43_1 {S : St} (hR : RCE S) : gR S 43 1 = some 34 := (hR _ _ (by decide)).trans rfl
theorem rE_43_2 {S : St} (hR : RCE S) : gR S 43 2 = some 44 := (hR _ _ (by decide)).trans rfl
theorem rE_43_3 {S : St} (hR : RCE S) : gR S 43 3 = some 45 := (hR _ _ (by decide)).trans rfl
theorem rE_43_4 {S : St} (hR : RCE S) : gR S 43 4 = some 46 := (hR _ _ (by decide)).trans rfl
theorem rE_43_5 {S : St} (hR : RCE S) : gR S 43 5 = some 47 := (hR _ _ (by decide)).trans rfl
theorem rE_43_6 {S : St} (hR : RCE S) : gR S 43 6 = some 48 := (hR _ _ (by decide)).trans rfl
theorem rE_43_7 {S : St} (hR : RCE S) : gR S 43 7 = some 49 := (hR _ _ (by decide)).trans rfl
theorem rE_50_0 {S : St} (hR : RCE S) : gR S 50 0 = some 21 := (hR _ _ (by decide)).trans rfl
theorem rE_50_1 {S : St} (hR : RCE S) : gR S 50 1 = some 34 := (hR _ _ (by decide)).trans rfl
theorem rE_50_2 {S : St} (hR : RCE S) : gR S 50 2 = some 30 := (hR _ _ (by decide)).trans rfl
theorem rE_50_3 {S : St} (hR : RCE S) : gR S 50 3 = some 51 := (hR _ _ (by decide)).trans rfl
theorem rE_50_4 {S : St} (hR : RCE S) : gR S 50 4 = some 52 := (hR _ _ (by decide)).trans rfl
theorem rE_50_5 {S : St} (hR : RCE S) : gR S 50 5 = some 53 := (hR _ _ (by decide)).trans rfl
theorem rE_50_6 {S : St} (hR : RCE S) : gR S 50 6 = some 54 := (hR _ _ (by decide)).trans rfl
theorem rE_50_7 {S : St} (hR : RCE S) : gR S 50 7 = some 55 := (hR _ _ (by decide)).trans rfl
theorem rE_56_0 {S : St} (hR : RCE S) : gR S 56 0 = some 57 := (hR _ _ (by decide)).trans rfl
theorem rE_56_1 {S : St} (hR : RCE S) : gR S 56 1 = some 58 := (hR _ _ (by decide)).trans rfl
theorem rE_56_2 {S : St} (hR : RCE S) : gR S 56 2 = some 59 := (hR _ _ (by decide)).trans rfl
theorem rE_56_3 {S : St} (hR : RCE S) : gR S 56 3 = some 60 := (hR _ _ (by decide)).trans rfl
theorem rE_56_4 {S : St} (hR : RCE S) : gR S 56 4 = some 61 := (hR _ _ (by decide)).trans rfl
theorem rE_56_5 {S : St} (hR : RCE S) : gR S 56 5 = some 21 := (hR _ _ (by decide)).trans rfl
theorem rE_61_0 {S : St} (hR : RCE S) : gR S 61 0 = some 62 := (hR _ _ (by decide)).trans rfl
theorem rE_63_0 {S : St} (hR : RCE S) : gR S 63 0 = some 64 := (hR _ _ (by decide)).trans rfl
theorem rE_63_1 {S : St} (hR : RCE S) : gR S 63 1 = some 78 := (hR _ _ (by decide)).trans rfl
theorem rE_63_2 {S : St} (hR : RCE S) : gR S 63 2 = some 92 := (hR _ _ (by decide)).trans rfl
theorem rE_63_3 {S : St} (hR : RCE S) : gR S 63 3 = some 106 := (hR _ _ (by decide)).trans rfl
theorem rE_64_0 {S : St} (hR : RCE S) : gR S 64 0 = some 65 := (hR _ _ (by decide)).trans rfl
theorem rE_64_1 {S : St} (hR : RCE S) : gR S 64 1 = some 74 := (hR _ _ (by decide)).trans rfl
theorem rE_65_7 {S : St} (hR : RCE S) : gR S 65 7 = some 66 := (hR _ _ (by decide)).trans rfl
theorem rE_65_8 {S : St} (hR : RCE S) : gR S 65 8 = some 67 := (hR _ _ (by decide)).trans rfl
theorem rE_65_9 {S : St} (hR : RCE S) : gR S 65 9 = some 68 := (hR _ _ (by decide)).trans rfl
theorem rE_65_10 {S : St} (hR : RCE S) : gR S 65 10 = some 69 := (hR _ _ (by decide)).trans rfl
theorem rE_65_11 {S : St} (hR : RCE S) : gR S 65 11 = some 70 := (hR _ _ (by decide)).trans rfl
theorem rE_65_12 {S : St} (hR : RCE S) : gR S 65 12 = some 71 := (hR _ _ (by decide)).trans rfl
theorem rE_65_13 {S : St} (hR : RCE S) : gR S 65 13 = some 72 := (hR _ _ (by decide)).trans rfl
theorem rE_65_14 {S : St} (hR : RCE S) : gR S 65 14 = some 73 := (hR _ _ (by decide)).trans rfl
theorem rE_74_0 {S : St} (hR : RCE S) : gR S 74 0 = some 75 := (hR _ _ (by decide)).trans rfl
theorem rE_74_1 {S : St} (hR : RCE S) : gR S 74 1 = some 76 := (hR _ _ (by decide)).trans rfl
theorem rE_74_2 {S : St} (hR : RCE S) : gR S 74 2 = some 77 := (hR _ _ (by decide)).trans rfl
theorem rE_78_0 {S : St} (hR : RCE S) : gR S 78 0 = some 79 := (hR _ _ (by decide)).trans rfl
theorem rE_78_1 {S : St} (hR : RCE S) : gR S 78 1 = some 88 := (hR _ _ (by decide)).trans rfl
theorem rE_79_7 {S : St} (hR : RCE S) : gR S 79 7 = some 80 := (hR _ _ (by decide)).trans rfl
theorem rE_79_8 {S : St} (hR : RCE S) : gR S 79 8 = some 81 := (hR _ _ (by decide)).trans rfl
theorem rE_79_9 {S : St} (hR : RCE S) : gR S 79 9 = some 82 := (hR _ _ (by decide)).trans rfl
theorem rE_79_10 {S : St} (hR : RCE S) : gR S 79 10 = some 83 := (hR _ _ (by decide)).trans rfl
theorem rE_79_11 {S : St} (hR : RCE S) : gR S 79 11 = some 84 := (hR _ _ (by decide)).trans rfl
theorem rE_79_12 {S : St} (hR : RCE S) : gR S 79 12 = some 85 := (hR _ _ (by decide)).trans rfl
theorem rE_79_13 {S : St} (hR : RCE S) : gR S 79 13 = some 86 := (hR _ _ (by decide)).trans rfl
theorem rE_79_14 {S : St} (hR : RCE S) : gR S 79 14 = some 87 := (hR _ _ (by decide)).trans rfl
theorem rE_88_0 {S : St} (hR : RCE S) : gR S 88 0 = some 89 := (hR _ _ (by decide)).trans rfl
theorem rE_88_1 {S : St} (hR : RCE S) : gR S 88 1 = some 90 := (hR _ _ (by decide)).trans rfl
theorem rE_88_2 {S : St} (hR : RCE S) : gR S 88 2 = some 91 := (hR _ _ (by decide)).trans rfl
theorem rE_92_0 {S : St} (hR : RCE S) : gR S 92 0 = some 93 := (hR _ _ (by decide)).trans rfl
theorem rE_92_1 {S : St} (hR : RCE S) : gR S 92 1 = some 102 := (hR _ _ (by decide)).trans rfl
theorem rE_93_7 {S : St} (hR : RCE S) : gR S 93 7 = some 94 := (hR _ _ (by decide)).trans rfl
theorem rE_93_8 {S : St} (hR : RCE S) : gR S 93 8 = some 95 := (hR _ _ (by decide)).trans rfl
theorem rE_93_9 {S : St} (hR : RCE S) : gR S 93 9 = some 96 := (hR _ _ (by decide)).trans rfl
theorem rE_93_10 {S : St} (hR : RCE S) : gR S 93 10 = some 97 := (hR _ _ (by decide)).trans rfl
theorem rE_93_11 {S : St} (hR : RCE S) : gR S 93 11 = some 98 := (hR _ _ (by decide)).trans rfl
theorem rE_93_12 {S : St} (hR : RCE S) : gR S 93 12 = some 99 := (hR _ _ (by decide)).trans rfl
theorem rE_93_13 {S : St} (hR : RCE S) : gR S 93 13 = some 100 := (hR _ _ (by decide)).trans rfl
theorem rE_93_14 {S : St} (hR : RCE S) : gR S 93 14 = some 101 := (hR _ _ (by decide)).trans rfl
theorem rE_102_0 {S : St} (hR : RCE S) : gR S 102 0 = some 103 := (hR _ _ (by decide)).trans rfl
theorem rE_102_1 {S : St} (hR : RCE S) : gR S 102 1 = some 104 := (hR _ _ (by decide)).trans rfl
theorem rE_102_2 {S : St} (hR : RCE S) : gR S 102 2 = some 105 := (hR _ _ (by decide)).trans rfl
theorem rE_106_0 {S : St} (hR : RCE S) : gR S 106 0 = some 107 := (hR _ _ (by decide)).trans rfl
theorem rE_106_1 {S : St} (hR : RCE S) : gR S 106 1 = some 116 := (hR _ _ (by decide)).trans rfl
theorem rE_107_7 {S : St} (hR : RCE S) : gR S 107 7 = some 108 := (hR _ _ (by decide)).trans rfl
theorem rE_107_8 {S : St} (hR : RCE S) : gR S 107 8 = some 109 := (hR _ _ (by decide)).trans rfl
theorem rE_107_9 {S : St} (hR : RCE S) : gR S 107 9 = some 110 := (hR _ _ (by decide)).trans rfl
theorem rE_107_10 {S : St} (hR : RCE S) : gR S 107 10 = some 111 := (hR _ _ (by decide)).trans rfl
theorem rE_107_11 {S : St} (hR : RCE S) : gR S 107 11 = some 112 := (hR _ _ (by decide)).trans rfl
theorem rE_107_12 {S : St} (hR : RCE S) : gR S 107 12 = some 113 := (hR _ _ (by decide)).trans rfl
theorem rE_107_13 {S : St} (hR : RCE S) : gR S 107 13 = some 114 := (hR _ _ (by decide)).trans rfl
theorem rE_107_14 {S : St} (hR : RCE S) : gR S 107 14 = some 115 := (hR _ _ (by decide)).trans rfl
theorem rE_116_0 {S : St} (hR : RCE S) : gR S 116 0 = some 117 := (hR _ _ (by decide)).trans rfl
theorem rE_116_1 {S : St} (hR : RCE S) : gR S 116 1 = some 118 := (hR _ _ (by decide)).trans rfl
theorem rE_116_2 {S : St} (hR : RCE S) : gR S 116 2 = some 119 := (hR _ _ (by decide)).trans rfl
theorem rE_120_0 {S : St} (hR : RCE S) : gR S 120 0 = some 121 := (hR _ _ (by decide)).trans rfl
def shML : List (Nat × Nat) := [(12, 0), (14, 1000), (14, 12), (14, 8), (14, 8), (14, 12), (14, 12), (14, 12), (14, 12), (16, 144), (14, 12), (14, 8), (14, 8), (14, 12), (15, 12), (14, 12), (14, 12), (14, 12), (14, 4), (14, 4), (14, 1000), (14, 7), (16, 7), (14, 7), (14, 7), (14, 7), (14, 7), (14, 7), (14, 7), (14, 7), (14, 7), (14, 7), (14, 20), (14, 12), (14, 12), (16, 200), (14, 201), (14, 12), (16, 144), (14, 12), (14, 12), (14, 60), (14, 60), (14, 60), (14, 144), (16, 4), (14, 2000), (14, 12)]
def shM (i : Nat) : Nat × Nat := shML.getD i (99, 0)
abbrev NM : Nat := 48
abbrev lnM (i : Nat) : Nat := (shM i).2
def R0ML : List (List (Option Nat)) := [[none, none, some 1, none, none, none, none, none, none, none, none, none, none, none, none, none, none, some 2, some 3, some 4, some 5, some 6, some 7, some 8, some 9, none, none, none, none, none, none, none, some 10, some 11, some 12, some 13, some 14, some 15, some 16, some 17, some 18, some 19, some 20, none, some 21, some 22, some 23, some 24, some 25, some 26, some 27, some 28, some 29, some 30, some 31, some 32, some 33, some 34, some 35, some 36, some 37, some 38, some 39, some 40, none, none, some 41, some 42, some 43, some 44, none, some 45, some 46, none, some 47], [], [], [], [], [], [], [], [], [], [], [], [], [], [], [], [], [], [], [], [], [], [], [], [], [], [], [], [], [], [], [], [], [], [], [], [], [], [], [], [], [], [], [], [], [], [], []]
def R0M (a k : Nat) : Option Nat := (R0ML.getD a []).getD k none
def RCM (S : St) : Prop := ∀ a k, gR S a k = R0M a k
theorem rcM {S S1 : St} {a k : Nat} {v : Int32} (e : S1 = sI S a k v) (h : RCM S) : RCM S1 := by subst e; exact h
theorem rcMJ {S S1 : St} {a k : Nat} {v : Int64} (e : S1 = sJ S a k v) (h : RCM S) : RCM S1 := by subst e; exact h
theorem kM_0 : ok shM NM 0 12 0 := ⟨by decide, rfl⟩
theorem kM_1 : ok shM NM 1 14 1000 := ⟨by decide, rfl⟩
theorem kM_2 : ok shM NM 2 14 12 := ⟨by decide, rfl⟩
theorem kM_3 : ok shM NM 3 14 8 := ⟨by decide, rfl⟩
theorem kM_4 : ok shM NM 4 14 8 := ⟨by decide, rfl⟩
theorem kM_5 : ok shM NM 5 14 12 := ⟨by decide, rfl⟩
theorem kM_6 : ok shM NM 6 14 12 := ⟨by decide, rfl⟩
theorem kM_7 : ok shM NM 7 14 12 := ⟨by decide, rfl⟩
theorem kM_8 : ok shM NM 8 14 12 := ⟨by decide, rfl⟩
theorem kM_9 : ok shM NM 9 16 144 := ⟨by decide, rfl⟩
theorem kM_10 : ok shM NM 10 14 12 := ⟨by decide, rfl⟩
theorem kM_11 : ok shM NM 11 14 8 := ⟨by decide, rfl⟩
theorem kM_12 : ok shM NM 12 14 8 := ⟨by decide, rfl⟩
theorem kM_13 : ok shM NM 13 14 12 := ⟨by decide, rfl⟩
theorem kM_14 : ok shM NM 14 15 12 := ⟨by decide, rfl⟩
theorem kM_15 : ok shM NM 15 14 12 := ⟨by decide, rfl⟩
theorem kM_16 : ok shM NM 16 14 12 := ⟨by decide, rfl⟩
theorem kM_17 : ok shM NM 17 14 12 := ⟨by decide, rfl⟩
theorem kM_18 : ok shM NM 18 14 4 := ⟨by decide, rfl⟩
theorem kM_19 : ok shM NM 19 14 4 := ⟨by decide, rfl⟩
theorem kM_20 : ok shM NM 20 14 1000 := ⟨by decide, rfl⟩
theorem kM_21 : ok shM NM 21 14 7 := ⟨by decide, rfl⟩
theorem kM_22 : ok shM NM 22 16 7 := ⟨by decide, rfl⟩
theorem kM_23 : ok shM NM 23 14 7 := ⟨by decide, rfl⟩
theorem kM_24 : ok shM NM 24 14 7 := ⟨by decide, rfl⟩
theorem kM_25 : ok shM NM 25 14 7 := ⟨by decide, rfl⟩
theorem kM_26 : ok shM NM 26 14 7 := ⟨by decide, rfl⟩
theorem kM_27 : ok shM NM 27 14 7 := ⟨by decide, rfl⟩
theorem kM_28 : ok shM NM 28 14 7 := ⟨by decide, rfl⟩
theorem kM_29 : ok shM NM 29 14 7 := ⟨by decide, rfl⟩
theorem kM_30 : ok shM NM 30 14 7 := ⟨by decide, rfl⟩
theorem kM_31 : ok shM NM 31 14 7 := ⟨by decide, rfl⟩
theorem kM_32 : ok shM NM 32 14 20 := ⟨by decide, rfl⟩
theorem kM_33 : ok shM NM 33 14 12 := ⟨by decide, rfl⟩
theorem kM_34 : ok shM NM 34 14 12 := ⟨by decide, rfl⟩
theorem kM_35 : ok shM NM 35 16 200 := ⟨by decide, rfl⟩
theorem kM_36 : ok shM NM 36 14 201 := ⟨by decide, rfl⟩
theorem kM_37 : ok shM NM 37 14 12 := ⟨by decide, rfl⟩
theorem kM_38 : ok shM NM 38 16 144 := ⟨by decide, rfl⟩
theorem kM_39 : ok shM NM 39 14 12 := ⟨by decide, rfl⟩
theorem kM_40 : ok shM NM 40 14 12 := ⟨by decide, rfl⟩
theorem kM_41 : ok shM NM 41 14 60 := ⟨by decide, rfl⟩
theorem kM_42 : ok shM NM 42 14 60 := ⟨by decide, rfl⟩
theorem kM_43 : ok shM NM 43 14 60 := ⟨by decide, rfl⟩
theorem kM_44 : ok shM NM 44 14 144 := ⟨by decide, rfl⟩
theorem kM_45 : ok shM NM 45 16 4 := ⟨by decide, rfl⟩
theorem kM_46 : ok shM NM 46 14 2000 := ⟨by decide, rfl⟩
theorem kM_47 : ok shM NM 47 14 12 := ⟨by decide, rfl⟩
theorem rM_0_2 {S : St} (hR : RCM S) : gR S 0 2 = some 1 := (hR _ _ ).trans rfl
theorem rM_0_17 {S : St} (hR : RCM S) : gR S 0 17 = some 2 := (hR _ _ ).trans rfl
theorem rM_0_18 {S : St} (hR : RCM S) : gR S 0 18 = some 3 := (hR _ _ ).trans rfl
theorem rM_0_19 {S : St} (hR : RCM S) : gR S 0 19 = some 4 := (hR _ _ ).trans rfl
theorem rM_0_20 {S : St} (hR : RCM S) : gR S 0 20 = some 5 := (hR _ _ ).trans rfl
theorem rM_0_21 {S : St} (hR : RCM S) : gR S 0 21 = some 6 := (hR _ _ ).trans rfl
theorem rM_0_22 {S : St} (hR : RCM S) : gR S 0 22 = some 7 := (hR _ _ ).trans rfl
theorem rM_0_23 {S : St} (hR : RCM S) : gR S 0 23 = some 8 := (hR _ _ ).trans rfl
theorem rM_0_24 {S : St} (hR : RCM S) : gR S 0 24 = some 9 := (hR _ _ ).trans rfl
theorem rM_0_32 {S : St} (hR : RCM S) : gR S 0 32 = some 10 := (hR _ _ ).trans rfl
theorem rM_0_33 {S : St} (hR : RCM S) : gR S 0 33 = some 11 := (hR _ _ ).trans rfl
theorem rM_0_34 {S : St} (hR : RCM S) : gR S 0 34 = some 12 := (hR _ _ ).trans rfl
theorem rM_0_35 {S : St} (hR : RCM S) : gR S 0 35 = some 13 := (hR _ _ ).trans rfl
theorem rM_0_36 {S : St} (hR : RCM S) : gR S 0 36 = some 14 := (hR _ _ ).trans rfl
theorem rM_0_37 {S : St} (hR : RCM S) : gR S 0 37 = some 15 := (hR _ _ ).trans rfl
theorem rM_0_38 {S : St} (hR : RCM S) : gR S 0 38 = some 16 := (hR _ _ ).trans rfl
theorem rM_0_39 {S : St} (hR : RCM S) : gR S 0 39 = some 17 := (hR _ _ ).trans rfl
theorem rM_0_40 {S : St} (hR : RCM S) : gR S 0 40 = some 18 := (hR _ _ ).trans rfl
theorem rM_0_41 {S : St} (hR : RCM S) : gR S 0 41 = some 19 := (hR _ _ ).trans rfl
theorem rM_0_42 {S : St} (hR : RCM S) : gR S 0 42 = some 20 := (hR _ _ ).trans rfl
theorem rM_0_44 {S : St} (hR : RCM S) : gR S 0 44 = some 21 := (hR _ _ ).trans rfl
theorem rM_0_45 {S : St} (hR : RCM S) : gR S 0 45 = some 22 := (hR _ _ ).trans rfl
theorem rM_0_46 {S : St} (hR : RCM S) : gR S 0 46 = some 23 := (hR _ _ ).trans rfl
theorem rM_0_47 {S : St} (hR : RCM S) : gR S 0 47 = some 24 := (hR _ _ ).trans rfl
theorem rM_0_48 {S : St} (hR : RCM S) : gR S 0 48 = some 25 := (hR _ _ ).trans rfl
theorem rM_0_49 {S : St} (hR : RCM S) : gR S 0 49 = some 26 := (hR _ _ ).trans rfl
theorem rM_0_50 {S : St} (hR : RCM S) : gR S 0 50 = some 27 := (hR _ _ ).trans rfl
theorem rM_0_51 {S : St} (hR : RCM S) : gR S 0 51 = some 28 := (hR _ _ ).trans rfl
theorem rM_0_52 {S : St} (hR : RCM S) : gR S 0 52 = some 29 := (hR _ _ ).trans rfl
theorem rM_0_53 {S : St} (hR : RCM S) : gR S 0 53 = some 30 := (hR _ _ ).trans rfl
theorem rM_0_54 {S : St} (hR : RCM S) : gR S 0 54 = some 31 := (hR _ _ ).trans rfl
theorem rM_0_55 {S : St} (hR : RCM S) : gR S 0 55 = some 32 := (hR _ _ ).trans rfl
theorem rM_0_56 {S : St} (hR : RCM S) : gR S 0 56 = some 33 := (hR _ _ ).trans rfl
theorem rM_0_57 {S : St} (hR : RCM S) : gR S 0 57 = some 34 := (hR _ _ ).trans rfl
theorem rM_0_58 {S : St} (hR : RCM S) : gR S 0 58 = some 35 := (hR _ _ ).trans rfl
theorem rM_0_59 {S : St} (hR : RCM S) : gR S 0 59 = some 36 := (hR _ _ ).trans rfl
theorem rM_0_60 {S : St} (hR : RCM S) : gR S 0 60 = some 37 := (hR _ _ ).trans rfl
theorem rM_0_61 {S : St} (hR : RCM S) : gR S 0 61 = some 38 := (hR _ _ ).trans rfl
theorem rM_0_62 {S : St} (hR : RCM S) : gR S 0 62 = some 39 := (hR _ _ ).trans rfl
theorem rM_0_63 {S : St} (hR : RCM S) : gR S 0 63 = some 40 := (hR _ _ ).trans rfl
theorem rM_0_66 {S : St} (hR : RCM S) : gR S 0 66 = some 41 := (hR _ _ ).trans rfl
theorem rM_0_67 {S : St} (hR : RCM S) : gR S 0 67 = some 42 := (hR _ _ ).trans rfl
theorem rM_0_68 {S : St} (hR : RCM S) : gR S 0 68 = some 43 := (hR _ _ ).trans rfl
theorem rM_0_69 {S : St} (hR : RCM S) : gR S 0 69 = some 44 := (hR _ _ ).trans rfl
theorem rM_0_71 {S : St} (hR : RCM S) : gR S 0 71 = some 45 := (hR _ _ ).trans rfl
theorem rM_0_72 {S : St} (hR : RCM S) : gR S 0 72 = some 46 := (hR _ _ ).trans rfl
theorem rM_0_74 {S : St} (hR : RCM S) : gR S 0 74 = some 47 := (hR _ _ ).trans rfl
theorem ok_ln {sh : Nat → Nat × Nat} {N a kd n : Nat} (h : ok sh N a kd n) : ok sh N a kd (sh a).2 := ⟨h.1, by rw [h.2]⟩
