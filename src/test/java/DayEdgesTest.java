/** The boundaries of TOP, of the ORDER and of a DAY: promises 13 to 17. */
public final class DayEdgesTest {
    public static void main(String[] args) {
        tops();
        topsOfADay();
        swaps();
        orderPlaces();
        soldNumbers();
        leastNeedle();
        unsold();
        leastBid();
        bidAndNeedle();
        quotients();
        coinAndNeedle();
        coinRunsOut();
        marks();
        bidByHeap();
        nextTick();
        longestDay();
        clockByClock();
        bidsRiseInATick();
        byTheOrder();
        dayNumbers();
        nothingIsKept();
        Edge.finish("DayEdgesTest", 13, 17);
    }

    private static void tops() {
        Edge.edge(13, "TOP (1 to 200; 100 at first)", """
            told 4 -> 100
            top MIN -> OUTSIDE
            top -1 -> OUTSIDE
            top 0 -> OUTSIDE
            top 201 -> OUTSIDE
            top MAX -> OUTSIDE
            told 4 -> 100
            top 1 -> 100
            top 0 -> OUTSIDE
            told 4 -> 1
            top 200 -> 1
            top 201 -> OUTSIDE
            told 4 -> 200
            top 200 -> 200
            """);
    }

    private static void topsOfADay() {
        Edge.edge(13, "the needle stands at TOP in the first TICK", """
            lots a0
            buyers 1a=999
            top 1 -> 100
            sells 0 0 1 0
            top 2 -> 1
            sells 0 0 2 0
            top 199 -> 2
            sells 0 0 199 0
            top 200 -> 199
            sells 0 0 200 0
            set 0 0 199 -> 200
            sells 0 0 199 1
            set 0 0 0 -> 199
            sells 0 0 0 200
            top 1 -> 200
            sells 0 0 0 1
            """);
    }

    private static void swaps() {
        Edge.edge(14, "UNKNOWN", """
            swap 0 0 -> UNKNOWN
            lots a0 b0 c0
            swap -1 0 -> UNKNOWN
            swap 0 -1 -> UNKNOWN
            swap 3 0 -> UNKNOWN
            swap 2 3 -> UNKNOWN
            swap 3 3 -> UNKNOWN
            swap MIN 0 -> UNKNOWN
            swap 0 MIN -> UNKNOWN
            swap MAX 0 -> UNKNOWN
            swap 0 MAX -> UNKNOWN
            stand 0 1 2
            """);
        Edge.edge(14, "two LOTS change places in the ORDER", """
            lots a0 b0 c0 d0
            swap 0 3 -> 1
            stand 3 1 2 0
            swap 0 1 -> 1
            stand 3 0 2 1
            swap 3 2 -> 1
            stand 2 0 3 1
            swap 2 2 -> 1
            stand 2 0 3 1
            swap 1 1 -> 1
            stand 2 0 3 1
            """);
        Edge.edge(14, "the first and the last of eight", """
            lots a0 b0 c0 d0 e0 a1 b1 c1
            swap 0 7 -> 1
            stand 7 1 2 3 4 5 6 0
            swap 7 8 -> UNKNOWN
            swap 8 7 -> UNKNOWN
            swap 7 0 -> 1
            stand 0 1 2 3 4 5 6 7
            """);
    }

    private static void orderPlaces() {
        Edge.edge(15, "the LOT at a place of the ORDER; NONE", """
            order 0 -> NONE
            order -1 -> NONE
            lots a0
            order -1 -> NONE
            order 0 -> 0
            order 1 -> NONE
            order MIN -> NONE
            order MAX -> NONE
            lots a0 a0 a0 a0 a0 a0
            order 6 -> 6
            order 7 -> NONE
            lots a0
            order 7 -> 7
            order 8 -> NONE
            """);
    }

    private static void soldNumbers() {
        Edge.edge(16, "0 the BUYER, 1 its price, 2 the TICK; UNKNOWN is ahead of OUTSIDE", """
            sold 0 0 -> UNKNOWN
            lots a0 b0
            buyers 1a=40
            sold -1 0 -> UNKNOWN
            sold 2 0 -> UNKNOWN
            sold MIN 0 -> UNKNOWN
            sold MAX 0 -> UNKNOWN
            sold 2 3 -> UNKNOWN
            sold -1 -1 -> UNKNOWN
            sold 0 -1 -> OUTSIDE
            sold 0 3 -> OUTSIDE
            sold 1 3 -> OUTSIDE
            sold 0 MIN -> OUTSIDE
            sold 0 MAX -> OUTSIDE
            sells 0 0 40 60
            sells 1 NONE NONE 161
            """);
        Edge.edge(16, "the eighth LOT", """
            lots b0 b0 b0 b0 b0 b0 b0
            sold 7 0 -> UNKNOWN
            lots a2
            sells 7 NONE NONE 100
            sold 8 0 -> UNKNOWN
            """);
        Edge.edge(16, "to the sixth BUYER", """
            lots a0
            buyers - - - - - 1a=40
            sells 0 5 40 60
            """);
    }

    private static void leastNeedle() {
        Edge.edge(16, "PRESSES, if that is LEAST or more", """
            lots a0:45
            buyers 1a=46
            sells 0 0 46 54
            wishes 0 1a=45
            sells 0 0 45 55
            wishes 0 1a=44
            sells 0 NONE NONE 55
            """);
        Edge.edge(16, "a LEAST of 200", """
            lots a0:200
            buyers 1a=200
            sells 0 NONE NONE 0
            top 199 -> 100
            sells 0 NONE NONE 0
            top 200 -> 199
            sells 0 0 200 0
            set 0 0 199 -> 200
            sells 0 NONE NONE 0
            set 0 0 200 -> 199
            wishes 0 1a=199
            sells 0 NONE NONE 0
            """);
    }

    private static void unsold() {
        Edge.edge(16, "none does, and the needle stands at LEAST or below: UNSOLD", """
            lots a0:50 a0
            top 49 -> 100
            sells 0 NONE NONE 0
            sells 1 NONE NONE 50
            top 50 -> 49
            sells 0 NONE NONE 0
            sells 1 NONE NONE 51
            top 51 -> 50
            sells 0 NONE NONE 1
            sells 1 NONE NONE 53
            """);
        Edge.edge(16, "below LEAST nobody PRESSES", """
            lots a0:50 a0
            buyers 1a=999|2a=999
            top 49 -> 100
            sells 0 NONE NONE 0
            sells 1 0 49 1
            top 50 -> 49
            sells 0 0 50 0
            sells 1 NONE NONE 51
            """);
        Edge.edge(16, "nobody is there", """
            lots a0:100 a1:99 a2:0
            sells 0 NONE NONE 0
            sells 1 NONE NONE 1
            sells 2 NONE NONE 100
            """);
    }

    private static void leastBid() {
        Edge.edge(16, "his BID is 1 or more", """
            lots a0
            buyers 1a=2
            sells 0 0 2 98
            wishes 0 1a=1
            sells 0 0 1 99
            set 0 0 0 -> 200
            sells 0 0 0 100
            wishes 0 1a=0
            sells 0 NONE NONE 100
            set 0 0 1000 -> 0
            sells 0 NONE NONE 100
            wishes 0 1b=999
            sells 0 NONE NONE 100
            """);
    }

    private static void bidAndNeedle() {
        Edge.edge(16, "his BID is not below that", """
            lots a0
            buyers 1a=101
            sells 0 0 100 0
            wishes 0 1a=100
            sells 0 0 100 0
            wishes 0 1a=99
            sells 0 0 99 1
            wishes 0 1a=98
            sells 0 0 98 2
            """);
    }

    private static void quotients() {
        Edge.edge(16, "quotients are cut: times (100 less CUT) by 100", """
            lots a0
            buyers 1a=99
            set 0 1 10 -> 0
            sells 0 0 89 11
            set 0 1 1 -> 10
            sells 0 0 98 2
            set 0 1 99 -> 1
            sells 0 NONE NONE 100
            set 0 1 98 -> 99
            sells 0 0 1 99
            wishes 0 1a=100
            sells 0 0 2 98
            set 0 1 99 -> 98
            sells 0 0 1 99
            wishes 0 1a=199
            sells 0 0 1 99
            wishes 0 1a=200
            sells 0 0 2 98
            wishes 0 1a=1
            set 0 1 1 -> 99
            sells 0 NONE NONE 100
            """);
    }

    private static void coinAndNeedle() {
        Edge.edge(16, "his COIN is not below that", """
            lots a0:10
            buyers 1a=80
            set 0 0 81 -> 200
            sells 0 0 80 20
            set 0 0 80 -> 81
            sells 0 0 80 20
            set 0 0 79 -> 80
            sells 0 0 79 21
            set 0 0 10 -> 79
            sells 0 0 10 90
            set 0 0 9 -> 10
            sells 0 NONE NONE 90
            set 0 0 0 -> 9
            sells 0 NONE NONE 90
            """);
    }

    private static void coinRunsOut() {
        Edge.edge(16, "his COIN is less by it", """
            lots a0 a0
            buyers 1a=60|2a=120
            set 0 0 120 -> 200
            sells 0 0 60 40
            sells 1 0 60 81
            ends 0 3 120 120 0
            set 0 0 119 -> 120
            sells 1 0 59 82
            ends 0 3 120 119 0
            set 0 0 61 -> 119
            sells 1 0 1 140
            ends 0 3 120 61 0
            set 0 0 60 -> 61
            sells 0 0 60 40
            sells 1 0 0 141
            ends 0 3 120 60 0
            set 0 0 59 -> 60
            sells 0 0 59 41
            sells 1 0 0 142
            """);
        Edge.edge(16, "COIN that is gone buys nothing at LEAST 1", """
            lots a0 a0:1
            buyers 1a=60|2a=120 2a=9|1a=1
            set 0 0 60 -> 200
            sells 0 0 60 40
            sells 1 1 1 140
            set 1 0 0 -> 200
            sells 1 NONE NONE 140
            """);
    }

    private static void marks() {
        Edge.edge(16, "the one with the least MARK, then number", """
            lots a0
            buyers 1a=40 1a=40 1a=40
            sells 0 0 40 60
            set 1 2 49 -> 50
            sells 0 1 40 60
            set 2 2 49 -> 50
            sells 0 1 40 60
            set 2 2 48 -> 49
            sells 0 2 40 60
            set 0 2 48 -> 50
            sells 0 0 40 60
            set 2 2 0 -> 48
            sells 0 2 40 60
            set 0 2 0 -> 48
            set 2 2 99 -> 0
            sells 0 0 40 60
            """);
        Edge.edge(16, "of those that PRESS: a needle that stands higher is ahead of every MARK", """
            lots a0
            buyers 1a=40 1a=41
            set 0 2 0 -> 50
            set 1 2 99 -> 50
            sells 0 1 41 59
            top 40 -> 100
            sells 0 0 40 0
            top 41 -> 40
            sells 0 1 41 0
            set 1 0 40 -> 200
            sells 0 0 40 1
            set 0 0 39 -> 200
            sells 0 1 40 1
            """);
    }

    private static void bidByHeap() {
        Edge.edge(16, "BID: WORTH of his HEAP and the LOT less WORTH of his HEAP", """
            lots a0 a0 a0
            buyers 1a=60|3a=61 1a=1
            sells 0 0 60 40
            sells 1 1 1 140
            sells 2 NONE NONE 241
            leave 1 1 -> 0
            sells 1 NONE NONE 141
            sells 2 NONE NONE 242
            wishes 0 1a=60|2a=60|3a=61
            sells 1 NONE NONE 141
            wishes 0 1a=60|2a=61|3a=63
            sells 1 0 1 140
            sells 2 0 2 239
            """);
        Edge.edge(16, "an ALTERNATIVE that only the HEAP and the LOT meet together", """
            lots a0 b0
            buyers 1a1b=90
            sells 0 NONE NONE 100
            sells 1 NONE NONE 201
            wishes 0 1a=1|1a1b=90
            sells 0 0 1 99
            sells 1 0 89 111
            """);
    }

    private static void nextTick() {
        Edge.edge(16, "behind that the next LOT comes on in the next TICK", """
            lots a0:1 a0:1 a0:1 a1 a1
            top 1 -> 100
            sells 0 NONE NONE 0
            sells 1 NONE NONE 1
            sells 2 NONE NONE 2
            sells 3 NONE NONE 1
            sells 4 NONE NONE 3
            buyers 1a=5|2a=10|3a=15|4a=20|5a=25
            sells 0 0 1 0
            sells 1 0 1 1
            sells 2 0 1 2
            sells 3 0 1 0
            sells 4 0 1 1
            """);
    }

    private static void longestDay() {
        Edge.edge(16, "the DAY is done as no LOT is left: eight on one CLOCK from TOP 200 down to 0", """
            lots a2 a2 a2 a2 a2 a2 a2 a2
            top 200 -> 100
            sells 0 NONE NONE 200
            sells 1 NONE NONE 401
            sells 6 NONE NONE 1406
            sells 7 NONE NONE 1607
            buyers 8a=1|7a=0
            sells 7 NONE NONE 1607
            wishes 0 1a=1|2a=2|3a=3|4a=4|5a=5|8a=6
            sells 0 0 1 199
            sells 4 0 1 999
            sells 5 NONE NONE 1200
            sells 7 NONE NONE 1602
            """);
    }

    private static void clockByClock() {
        Edge.edge(16, "CLOCK by CLOCK: COIN that one takes is gone for the next in the same TICK", """
            lots a2 a1 a0
            buyers 1a=50|2a=100|3a=150
            set 0 0 150 -> 200
            sells 2 0 50 50
            sells 1 0 50 50
            sells 0 0 50 50
            set 0 0 149 -> 150
            sells 2 0 50 50
            sells 1 0 50 50
            sells 0 0 49 51
            set 0 0 100 -> 149
            sells 1 0 50 50
            sells 0 0 0 100
            set 0 0 99 -> 100
            sells 2 0 50 50
            sells 1 0 49 51
            sells 0 0 0 100
            """);
        Edge.edge(16, "CLOCK by CLOCK: what one brings is not wanted from the next", """
            lots a1 a0
            buyers 1a=50
            sells 1 0 50 50
            sells 0 NONE NONE 100
            buyers 1a=50
            sells 1 0 50 50
            sells 0 1 50 50
            """);
    }

    private static void bidsRiseInATick() {
        Edge.edge(16, "a CLOCK behind is looked at in the same TICK", """
            lots a0 b1:10
            buyers 1a=10|1a1b=90
            sells 0 0 10 90
            sells 1 0 10 90
            """);
        Edge.edge(16, "a CLOCK behind whose LOT went in the TICK ahead", """
            lots a0 b1:11
            buyers 1a=10|1a1b=90
            sells 0 0 10 90
            sells 1 NONE NONE 89
            """);
        Edge.edge(16, "a CLOCK ahead is looked at in the next TICK", """
            lots a1 b0:9
            buyers 1a=10|1a1b=90
            sells 0 0 10 90
            sells 1 0 9 91
            """);
        Edge.edge(16, "a CLOCK ahead whose LOT went in the same TICK", """
            lots a1 b0:10
            buyers 1a=10|1a1b=90
            sells 0 0 10 90
            sells 1 NONE NONE 90
            """);
    }

    private static void byTheOrder() {
        Edge.edge(16, "one behind another, by an ORDER of all LOTS (by numbers at first)", """
            lots a0 a0 a1
            buyers 1a=40
            sells 0 0 40 60
            sells 1 NONE NONE 161
            sells 2 NONE NONE 100
            swap 0 1 -> 1
            sells 1 0 40 60
            sells 0 NONE NONE 161
            swap 0 2 -> 1
            sells 1 0 40 60
            sells 0 NONE NONE 161
            swap 0 1 -> 1
            sells 0 0 40 60
            sells 1 NONE NONE 161
            sells 2 NONE NONE 100
            """);
    }

    private static void dayNumbers() {
        Edge.edge(17, "0 the HEAP, 1 its WORTH, 2 what was paid, 3 COIN left; UNKNOWN is ahead of OUTSIDE", """
            day 0 0 -> UNKNOWN
            day -1 0 -> UNKNOWN
            buyers 1a=40 -
            ends 0 0 0 0 200
            day 0 -1 -> OUTSIDE
            day 0 4 -> OUTSIDE
            day 1 MIN -> OUTSIDE
            day 1 MAX -> OUTSIDE
            day -1 0 -> UNKNOWN
            day 2 0 -> UNKNOWN
            day MIN 0 -> UNKNOWN
            day MAX 0 -> UNKNOWN
            day 2 4 -> UNKNOWN
            day -1 -1 -> UNKNOWN
            lots b0 a0
            ends 0 2 40 40 160
            ends 1 0 0 0 200
            """);
        Edge.edge(17, "the sixth BUYER has all eight", """
            lots a0 a1 a2 a0 a1 a2 a0 a1
            buyers - - - - - 8a=1|7a=0
            day 5 0 -> 0
            set 5 0 1000 -> 200
            top 1 -> 100
            wishes 5 1a=1|2a=2|3a=3|4a=4|5a=5|8a=6
            ends 5 31 5 5 995
            day 6 0 -> UNKNOWN
            wishes 5 1a=1|2a=2|3a=3|4a=4|5a=5
            set 5 0 5 -> 1000
            ends 5 31 5 5 0
            set 5 0 4 -> 5
            ends 5 31 5 4 0
            set 5 0 0 -> 4
            ends 5 31 5 0 0
            """);
        Edge.edge(17, "all eight", """
            lots a0 b1 c2 d0 e1 a2 b0 c1
            buyers 1a=9|1b=9|1c=9|1d=9|1e=9 1a=3 1b=2|2b=4 1c=3|2c=6 1d=4 1e=5
            ends 0 1 9 9 191
            ends 1 32 3 3 197
            ends 2 66 4 4 196
            ends 3 132 6 6 194
            ends 4 8 4 4 196
            ends 5 16 5 5 195
            """);
    }

    private static void nothingIsKept() {
        Edge.edge(17, "COIN, HEAPS are as at first the next time it is asked", """
            lots a0
            buyers 1a=40
            set 0 0 40 -> 200
            ends 0 1 40 40 0
            ends 0 1 40 40 0
            sells 0 0 40 60
            ends 0 1 40 40 0
            gain 0 -> 0
            cut 0 1 -> 39
            ends 0 1 40 40 0
            orders 0 -> 40
            ends 0 1 40 40 0
            set 0 0 40 -> 40
            """);
    }
}
