section
variable {n : Nat} {p : Int32} {X Y : Nat → Int} {k l q c : Nat → Int32} {s t w : Nat → Int32}
theorem yb_tilings {post : Int32 → SY → Prop} (g : gr X Y) (hn : n ≤ 10) (h0 : ¬ PR n X Y → post (-1000) (sY n p X Y k l q c)) (h1 : PR n X Y → ∀ p' q' c', post (nI (TL (CUX n X Y) n)) (sY n p' X Y k l q' c')) : wpY_tilings post (sY n p X Y k l q c) := sorry
end
