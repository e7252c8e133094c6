/-! What must hold, printed by wip/gen/emit6.py. -/
theorem ajIfH {c A B A' B' : Prop} [Decidable c] (h : if c then A else B) (f : A → A') (g : B → B') : if c then A' else B' := ajIfM f g h
