/** The boundaries of what is DEALT, of PRICES and of RAISED: promises 18 to 22. */
public final class DealEdgesTest {
    public static void main(String[] args) {
        dealtNumbers();
        dealtToOneOrNone();
        dealtFirstByHeaps();
        dealtFromWhatIsLeft();
        dealtWithoutCoin();
        dealtAllEight();
        prices();
        likeNumbers();
        likesGreatest();
        likesLeastNumber();
        missings();
        missingMost();
        raisedNumbers();
        raisedByTwo();
        raisedTillFair();
        raisedTillNoneDoes();
        raisedTill300();
        Edge.finish("DealEdgesTest", 18, 22);
    }

    private static void dealtNumbers() {
        Edge.edge(18, "WORTH of all (buyer = -1), the HEAP of a BUYER; UNKNOWN", """
            dealt MIN -> UNKNOWN
            dealt -2 -> UNKNOWN
            dealt -1 -> 0
            dealt 0 -> UNKNOWN
            dealt MAX -> UNKNOWN
            lots a0
            dealt -1 -> 0
            buyers 1a=9
            dealt -2 -> UNKNOWN
            dealt -1 -> 9
            dealt 0 -> 1
            dealt 1 -> UNKNOWN
            buyers - - - -
            dealt 4 -> 0
            dealt 5 -> UNKNOWN
            buyers -
            dealt 5 -> 0
            dealt 6 -> UNKNOWN
            """);
        Edge.edge(18, "no LOTS are there", """
            buyers 1a=999
            dealt -1 -> 0
            dealt 0 -> 0
            """);
    }

    private static void dealtToOneOrNone() {
        Edge.edge(18, "each LOT to one BUYER or to none", """
            lots a0 a0
            buyers 1a=1
            dealt -1 -> 1
            dealt 0 -> 1
            buyers 1a=1
            dealt -1 -> 2
            dealt 0 -> 1
            dealt 1 -> 2
            buyers 1a=1
            dealt -1 -> 2
            dealt 0 -> 0
            dealt 1 -> 1
            dealt 2 -> 2
            """);
        Edge.edge(18, "an ALTERNATIVE of 0 is worth no LOT", """
            lots a0
            buyers 1a=0 1a=0|1b=5
            dealt -1 -> 0
            dealt 0 -> 0
            dealt 1 -> 0
            """);
    }

    private static void dealtFirstByHeaps() {
        Edge.edge(18, "the most WORTH of all together; of several the first by HEAPS of BUYERS 0, 1, ..", """
            lots a0
            buyers 1a=5 1a=5
            dealt 0 -> 0
            dealt 1 -> 1
            wishes 0 1a=6
            dealt -1 -> 6
            dealt 0 -> 1
            dealt 1 -> 0
            wishes 0 1a=4
            dealt -1 -> 5
            dealt 0 -> 0
            dealt 1 -> 1
            """);
        Edge.edge(18, "HEAPS as numbers", """
            lots b0 a0 b0 a0
            buyers 1a1b=5|2a=5|2b=5 1b=1|1a=1
            dealt -1 -> 6
            dealt 0 -> 3
            dealt 1 -> 4
            leave 0 1 -> 0
            dealt 0 -> 5
            dealt 1 -> 2
            leave 0 5 -> 1
            dealt 0 -> 10
            dealt 1 -> 1
            """);
        Edge.edge(18, "two LOTS against one", """
            lots a0 b0
            buyers 1a1b=10 1a=5 1b=5
            dealt -1 -> 10
            dealt 0 -> 0
            dealt 1 -> 1
            dealt 2 -> 2
            wishes 0 1a1b=11
            dealt -1 -> 11
            dealt 0 -> 3
            dealt 1 -> 0
            dealt 2 -> 0
            """);
    }

    private static void dealtFromWhatIsLeft() {
        Edge.edge(18, "each LOT to one: the next BUYER has what is left, and no more of it than he needs", """
            lots a0 b0 b0 b0
            buyers 1a=9 1a=5|1b=3 1a=9|1b=2
            dealt -1 -> 14
            dealt 0 -> 1
            dealt 1 -> 2
            dealt 2 -> 4
            buyers 1a=9|1b=9
            dealt -1 -> 23
            dealt 3 -> 8
            """);
    }

    private static void dealtWithoutCoin() {
        Edge.edge(18, "COIN does not matter, nor do CUT, LEAST, PRICES", """
            lots a0:200
            buyers 1a=999
            set 0 0 0 -> 200
            set 0 1 99 -> 0
            price 0 1000 -> 0
            top 1 -> 100
            dealt -1 -> 999
            dealt 0 -> 1
            """);
    }

    private static void dealtAllEight() {
        Edge.edge(18, "all eight LOTS to one", """
            lots a0 a0 a0 a0 a0 a0 a0 a0
            buyers 9a=999|8a=10|7a=9 -
            dealt -1 -> 10
            dealt 0 -> 255
            leave 0 2 -> 0
            dealt -1 -> 9
            dealt 0 -> 127
            leave 0 6 -> 2
            dealt -1 -> 0
            dealt 0 -> 0
            """);
        Edge.edge(18, "eight LOTS of all SORTS to six", """
            lots a0 b0 c0 d0 e0 a1 b1 c1
            buyers 1a1b=7 1b1c=7 1a1c=7 1c1d=7 1d1e=7 1e=8
            dealt -1 -> 29
            dealt 0 -> 3
            dealt 1 -> 0
            dealt 2 -> 36
            dealt 3 -> 136
            dealt 4 -> 0
            dealt 5 -> 16
            """);
    }

    private static void prices() {
        Edge.edge(19, "PRICES of LOTS (0 to 1000 each; 0 at first)", """
            price 0 0 -> UNKNOWN
            lots a0 b0
            price 0 MIN -> OUTSIDE
            price 0 -1 -> OUTSIDE
            price 0 1001 -> OUTSIDE
            price 0 MAX -> OUTSIDE
            price 0 1000 -> 0
            price 0 1001 -> OUTSIDE
            price 1 1 -> 0
            price 0 999 -> 1000
            price 0 0 -> 999
            price 0 0 -> 0
            price 1 0 -> 1
            """);
        Edge.edge(19, "UNKNOWN is ahead of OUTSIDE; a LOT that comes has 0", """
            lots a0
            price 0 7 -> 0
            price 1 7 -> UNKNOWN
            price -1 7 -> UNKNOWN
            price MIN 7 -> UNKNOWN
            price MAX 7 -> UNKNOWN
            price 1 1001 -> UNKNOWN
            price -1 -1 -> UNKNOWN
            lots a0 a0 a0 a0 a0 a0 a0
            price 1 0 -> 0
            price 7 8 -> 0
            price 8 0 -> UNKNOWN
            price 7 0 -> 8
            price 0 0 -> 7
            """);
        Edge.edge(19, "the DAY does not ask for PRICES", """
            lots a0
            buyers 1a=40
            price 0 1000 -> 0
            sells 0 0 40 60
            ends 0 1 40 40 160
            """);
    }

    private static void likeNumbers() {
        Edge.edge(20, "the HEAP (what = 0), its WORTH less PRICES (1); UNKNOWN is ahead of OUTSIDE", """
            likes 0 0 -> UNKNOWN
            buyers 1a=40 -
            likes 0 0 -> 0
            likes 0 1 -> 0
            lots a0
            likes 0 0 -> 1
            likes 0 1 -> 40
            likes 1 0 -> 0
            likes 1 1 -> 0
            likes 0 -1 -> OUTSIDE
            likes 0 2 -> OUTSIDE
            likes 0 MIN -> OUTSIDE
            likes 1 MAX -> OUTSIDE
            likes -1 0 -> UNKNOWN
            likes 2 0 -> UNKNOWN
            likes MIN 0 -> UNKNOWN
            likes MAX 0 -> UNKNOWN
            likes 2 2 -> UNKNOWN
            likes -1 -1 -> UNKNOWN
            """);
        Edge.edge(20, "the sixth BUYER LIKES all eight", """
            lots a0 a0 a0 a0 a0 a0 a0 a0
            buyers - - - - - 8a=999|9a=999
            likes 5 0 -> 255
            likes 5 1 -> 999
            likes 6 0 -> UNKNOWN
            price 7 998 -> 0
            likes 5 0 -> 255
            likes 5 1 -> 1
            price 7 999 -> 998
            likes 5 0 -> 0
            price 7 998 -> 999
            price 0 1 -> 0
            likes 5 0 -> 0
            likes 5 1 -> 0
            """);
    }

    private static void likesGreatest() {
        Edge.edge(20, "the greatest WORTH less PRICES (0 is one)", """
            lots a0
            buyers 1a=40
            price 0 39 -> 0
            likes 0 0 -> 1
            likes 0 1 -> 1
            price 0 40 -> 39
            likes 0 0 -> 0
            likes 0 1 -> 0
            price 0 41 -> 40
            likes 0 0 -> 0
            likes 0 1 -> 0
            price 0 1000 -> 41
            likes 0 1 -> 0
            """);
        Edge.edge(20, "COIN does not matter, nor does LEAST", """
            lots a0:200
            buyers 1a=999
            set 0 0 0 -> 200
            price 0 998 -> 0
            likes 0 0 -> 1
            likes 0 1 -> 1
            """);
        Edge.edge(20, "the cheaper LOTS of a SORT", """
            lots a0 a0 a0
            buyers 2a=50
            price 0 2 -> 0
            price 1 1 -> 0
            likes 0 0 -> 6
            likes 0 1 -> 49
            price 0 1 -> 2
            likes 0 0 -> 5
            price 2 1 -> 0
            likes 0 0 -> 3
            likes 0 1 -> 48
            price 0 25 -> 1
            price 1 25 -> 1
            price 2 25 -> 1
            likes 0 0 -> 0
            price 2 24 -> 25
            likes 0 0 -> 5
            likes 0 1 -> 1
            """);
    }

    private static void likesLeastNumber() {
        Edge.edge(20, "of several the least number", """
            lots b0 a0
            buyers 1a=40|1b=41
            likes 0 0 -> 1
            price 0 1 -> 0
            likes 0 0 -> 1
            likes 0 1 -> 40
            price 0 2 -> 1
            likes 0 0 -> 2
            likes 0 1 -> 40
            price 0 1 -> 2
            wishes 0 1b=41|1a=40
            likes 0 0 -> 1
            wishes 0 1a=40|1b=40
            likes 0 0 -> 2
            price 0 0 -> 1
            likes 0 0 -> 1
            wishes 0 1b=40|1a=40
            likes 0 0 -> 1
            """);
        Edge.edge(20, "a HEAP with more is a greater number, or not", """
            lots a0 a0 b0
            buyers 1a=10|2a=20|1b=10
            price 0 10 -> 0
            price 1 10 -> 0
            price 2 10 -> 0
            likes 0 0 -> 0
            price 0 9 -> 10
            likes 0 0 -> 1
            likes 0 1 -> 1
            price 0 10 -> 9
            price 1 9 -> 10
            likes 0 0 -> 2
            price 2 9 -> 10
            likes 0 0 -> 2
            price 1 10 -> 9
            likes 0 0 -> 4
            price 0 9 -> 10
            price 1 9 -> 10
            likes 0 0 -> 3
            likes 0 1 -> 2
            """);
        Edge.edge(20, "what costs nothing and brings nothing is in none", """
            lots c0 a0 a0 b0
            buyers 1a=5|1a1b=5|2a=5
            likes 0 0 -> 2
            likes 0 1 -> 5
            wishes 0 1a=0
            likes 0 0 -> 0
            """);
    }

    private static void missings() {
        Edge.edge(21, "what all have and all PRICES, less the WORTH DEALT; at 0 they are FAIR", """
            missing -> 0
            lots a0
            missing -> 0
            buyers 1a=40 1a=25
            missing -> 25
            price 0 1 -> 0
            missing -> 24
            price 0 24 -> 1
            missing -> 1
            price 0 25 -> 24
            missing -> 0
            price 0 26 -> 25
            missing -> 0
            price 0 39 -> 26
            missing -> 0
            price 0 40 -> 39
            missing -> 0
            price 0 41 -> 40
            missing -> 1
            price 0 1000 -> 41
            missing -> 960
            """);
        Edge.edge(21, "a LOT that nobody is dealt costs nothing, where they are FAIR", """
            lots a0 b0
            buyers 1a=40
            missing -> 0
            price 1 1 -> 0
            missing -> 1
            price 1 0 -> 1
            price 0 40 -> 0
            missing -> 0
            price 0 41 -> 40
            missing -> 1
            """);
    }

    private static void missingMost() {
        Edge.edge(21, "the greatest PRICES of eight LOTS that nobody wants", """
            lots a0 a0 a0 a0 a0 a0 a0 a0
            price 0 1000 -> 0
            price 1 1000 -> 0
            price 2 1000 -> 0
            price 3 1000 -> 0
            price 4 1000 -> 0
            price 5 1000 -> 0
            price 6 1000 -> 0
            missing -> 7000
            price 7 1000 -> 0
            missing -> 8000
            price 7 1001 -> OUTSIDE
            missing -> 8000
            """);
        Edge.edge(21, "six BUYERS of one LOT for nothing", """
            lots a0
            buyers 1a=999 1a=999 1a=999 1a=999 1a=999 1a=999
            missing -> 4995
            price 0 998 -> 0
            missing -> 5
            price 0 999 -> 998
            missing -> 0
            """);
    }

    private static void raisedNumbers() {
        Edge.edge(22, "ROUNDS (0), MISSING then (1), 10 to 17 the PRICE of a LOT; UNKNOWN: no such LOT", """
            raised -1 -> OUTSIDE
            raised 0 -> 0
            raised 1 -> 0
            raised 2 -> OUTSIDE
            raised 9 -> OUTSIDE
            raised 10 -> UNKNOWN
            raised 17 -> UNKNOWN
            raised 18 -> OUTSIDE
            raised MIN -> OUTSIDE
            raised MAX -> OUTSIDE
            lots a0
            raised 9 -> OUTSIDE
            raised 10 -> 0
            raised 11 -> UNKNOWN
            raised 17 -> UNKNOWN
            raised 18 -> OUTSIDE
            lots b0 c0 d0 e0 a0 b0
            raised 16 -> 0
            raised 17 -> UNKNOWN
            lots c0
            raised 17 -> 0
            raised 18 -> OUTSIDE
            """);
        Edge.edge(22, "from PRICES 0; PRICES that were told stay", """
            lots e0 d0 c0 b0 a0 a1 b1 c1
            buyers 1a1e=6 1e=6 1e=2
            price 0 1000 -> 0
            price 7 3 -> 0
            raised 0 -> 6
            raised 1 -> 0
            raised 10 -> 6
            raised 17 -> 0
            price 7 0 -> 3
            price 0 0 -> 1000
            """);
    }

    private static void raisedByTwo() {
        Edge.edge(22, "each LOT that two BUYERS or more LIKE costs 1 more", """
            lots a0
            raised 0 -> 0
            buyers 1a=5
            raised 0 -> 0
            raised 10 -> 0
            buyers 1a=5
            raised 0 -> 5
            raised 10 -> 5
            buyers 1a=5
            raised 0 -> 5
            raised 10 -> 5
            raised 1 -> 0
            leave 0 1 -> 0
            leave 1 1 -> 0
            raised 0 -> 0
            raised 1 -> 0
            """);
        Edge.edge(22, "all at once", """
            lots a0 b0
            buyers 1a1b=10 1a1b=10
            raised 0 -> 5
            raised 1 -> 0
            raised 10 -> 5
            raised 11 -> 5
            wishes 0 1a1b=11
            raised 0 -> 5
            raised 1 -> 0
            wishes 1 1a1b=11
            raised 0 -> 6
            raised 1 -> 1
            raised 10 -> 6
            raised 11 -> 6
            """);
    }

    private static void raisedTillFair() {
        Edge.edge(22, "till they are FAIR", """
            lots a0 b0
            buyers 1a=40 1b=40
            raised 0 -> 0
            raised 1 -> 0
            wishes 1 1a=40|1b=40
            likes 0 0 -> 1
            likes 1 0 -> 1
            raised 0 -> 0
            raised 1 -> 0
            raised 10 -> 0
            wishes 1 1a=40|1b=39
            raised 0 -> 1
            raised 1 -> 0
            raised 10 -> 1
            raised 11 -> 0
            wishes 1 1a=1
            raised 0 -> 1
            raised 1 -> 0
            wishes 1 1a=0
            raised 0 -> 0
            raised 1 -> 0
            """);
    }

    private static void raisedTillNoneDoes() {
        Edge.edge(22, "or none does", """
            lots a0 b0 c0
            buyers 1a1b=60 1b1c=60 1a1c=60
            raised 0 -> 30
            raised 1 -> 30
            raised 10 -> 30
            raised 11 -> 30
            raised 12 -> 30
            leave 2 1 -> 0
            raised 1 -> 0
            """);
    }

    private static void raisedTill300() {
        Edge.edge(22, "or 300 ROUNDS are done", """
            lots a0
            buyers 1a=299 1a=299
            raised 0 -> 299
            raised 1 -> 0
            raised 10 -> 299
            wishes 0 1a=300
            wishes 1 1a=300
            raised 0 -> 300
            raised 1 -> 0
            raised 10 -> 300
            wishes 0 1a=301
            raised 0 -> 300
            raised 1 -> 0
            wishes 1 1a=301
            raised 0 -> 300
            raised 1 -> 1
            raised 10 -> 300
            wishes 0 1a=999
            wishes 1 1a=999
            raised 0 -> 300
            raised 1 -> 699
            raised 10 -> 300
            """);
    }
}
