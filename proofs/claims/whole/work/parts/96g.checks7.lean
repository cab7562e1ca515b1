/-! The check of method 154, the law itself, a few blocks at a time. -/
theorem ck_cut {α : Type} (f : α → Bool) (n : Nat) (l : List α) (h1 : (l.take n).all f = true) (h2 : (l.drop n).all f = true) : l.all f = true := by
  rw [← List.take_append_drop n l, List.all_append, h1, h2]; rfl
theorem ck_l154 : (xln 154).all (xlok 154) = true := by decide +kernel
theorem ck_b154_0 : ((xbl 154).take 5).all (fun q => xokl 154 q.1 q.2) = true := by decide +kernel
theorem ck_b154_1 : (((xbl 154).drop 5).take 5).all (fun q => xokl 154 q.1 q.2) = true := by decide +kernel
theorem ck_b154_2 : ((((xbl 154).drop 5).drop 5).take 5).all (fun q => xokl 154 q.1 q.2) = true := by decide +kernel
theorem ck_b154_3 : (((((xbl 154).drop 5).drop 5).drop 5).take 5).all (fun q => xokl 154 q.1 q.2) = true := by decide +kernel
theorem ck_b154_4 : ((((((xbl 154).drop 5).drop 5).drop 5).drop 5).take 5).all (fun q => xokl 154 q.1 q.2) = true := by decide +kernel
theorem ck_b154_5 : (((((((xbl 154).drop 5).drop 5).drop 5).drop 5).drop 5).take 5).all (fun q => xokl 154 q.1 q.2) = true := by decide +kernel
theorem ck_b154_6 : ((((((((xbl 154).drop 5).drop 5).drop 5).drop 5).drop 5).drop 5).take 5).all (fun q => xokl 154 q.1 q.2) = true := by decide +kernel
theorem ck_b154_7 : (((((((((xbl 154).drop 5).drop 5).drop 5).drop 5).drop 5).drop 5).drop 5).take 5).all (fun q => xokl 154 q.1 q.2) = true := by decide +kernel
theorem ck_b154_8 : ((((((((((xbl 154).drop 5).drop 5).drop 5).drop 5).drop 5).drop 5).drop 5).drop 5).take 5).all (fun q => xokl 154 q.1 q.2) = true := by decide +kernel
theorem ck_b154_9 : ((((((((((xbl 154).drop 5).drop 5).drop 5).drop 5).drop 5).drop 5).drop 5).drop 5).drop 5).all (fun q => xokl 154 q.1 q.2) = true := by decide +kernel
theorem ck_b154 : (xbl 154).all (fun q => xokl 154 q.1 q.2) = true := ck_cut _ 5 _ ck_b154_0 (ck_cut _ 5 _ ck_b154_1 (ck_cut _ 5 _ ck_b154_2 (ck_cut _ 5 _ ck_b154_3 (ck_cut _ 5 _ ck_b154_4 (ck_cut _ 5 _ ck_b154_5 (ck_cut _ 5 _ ck_b154_6 (ck_cut _ 5 _ ck_b154_7 (ck_cut _ 5 _ ck_b154_8 ck_b154_9))))))))
theorem ck_154 : xchk 154 = true := by
  unfold xchk
  rw [ck_l154, ck_b154]
  decide +kernel
