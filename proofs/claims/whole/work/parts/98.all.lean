theorem z_all : ∃ Inv : zSt → zSt → Prop, Inv zS0X zS0M ∧ zStep Inv := sorry
