theorem whole_rel : ∃ Rel : CSt → RSt → Prop, LSall Rel := sorry
