/**
 * The edges of every sentence of the document: the value at the edge and those beside it, the empty
 * and the full case, the wrap-around, the refused call. A sentence that no test names is wrong.
 */
final class EdgesTest {
    public static void main(String[] args) {
        OverviewEdges.all();
        PulseEdges.all();
        StatusEdges.all();
        CountEdges.all();
        PatternEdges.all();
        BurstEdges.all();
        TrendEdges.all();
        TextEdges.all();
        WhatIfEdges.all();
        StateEdges.all();
        Doc.allNamed();
        Checks.end();
    }
}
