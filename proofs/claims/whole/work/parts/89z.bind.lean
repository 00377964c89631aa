/-! An answer handed on; not by computing, so that no loop is unrolled. -/
theorem o_bind {α β : Type} (a : α) (f : α → Option β) : (some a).bind f = f a := Eq.trans (Option.bind_some a f) (Eq.refl _)
