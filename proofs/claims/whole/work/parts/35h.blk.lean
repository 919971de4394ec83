/-! Blocks: what must hold ahead of each piece of a method -/
