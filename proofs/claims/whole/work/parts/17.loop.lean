theorem zq_loop_s {α β : Type} (b : (α → Option β) → α → Option β) (n : Nat) (v : α) : zq_loop b (n + 1) v = b (zq_loop b n) v := rfl
