theorem okl_sub {R : RV} {m : Nat} (hm : ∀ c, m.testBit c = true → R.lv.testBit c = true) {l : List Nat} (h : okl R m l) : okl R R.lv l ∧ mean (wM R m) l = mean (wR R) l := by
  have hc : ∀ c ∈ l, wM R m c = wR R c := fun c hc => by rw [wR_wM]; exact wM_sub hm (h.1 c hc).2
  refine ⟨⟨fun c hcc => ⟨(h.1 c hcc).1, hm c (h.1 c hcc).2⟩, ?_, h.2.2⟩, mean_congr hc⟩
  have : ∀ (l : List Nat) (p : Nat), (∀ c ∈ l, wM R m c = wM R R.lv c) → pl (wM R m) p l = pl (wM R R.lv) p l := by
    intro l
    induction l with
    | nil => intro p _; rfl
    | cons a l ih =>
      intro p h
      show pl (wM R m) (nx p (wk (wM R m a))) l = pl (wM R R.lv) (nx p (wk (wM R R.lv a))) l
      rw [h a List.mem_cons_self]
      exact ih _ (fun c hc => h c (List.mem_cons_of_mem _ hc))
  rw [← this l 0 hc]
  exact h.2.1
