/-! every case keeps the invariant: the statement -/
