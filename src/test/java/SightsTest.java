/** Promises 33 to 45 but 41: how far off she is, which one it was, laws of parting. */
public final class SightsTest {
    private static final String THREE = "p50304;g71015;b90002";

    public static void main(String[] args) {
        promise33And34();
        promise35();
        promise35AllElseAsItIs();
        promise36();
        promise37And38();
        promise39();
        promise40();
        promise42And43();
        promise44();
        promise45();
        eachLaw();
        Check.close("SightsTest");
    }

    private static void promise33And34() {
        StreamersHeld x = Check.of(THREE, "");
        int[][] none = {{-1, 0, 0}, {3, 0, 0}, {0, -100, 0}, {0, 100, 0}, {0, 0, -1}, {0, 0, 2}};
        for (int[] a : none) {
            Check.that("seen() refused", x.seen(a[0], a[1], a[2]), -1);
        }
        Check.that("none", x.forget(), 0);
        for (int n = 1; n <= 10; n++) {
            Check.that("seen()", x.seen(n % 3, n % 2 == 0 ? -99 : 99, n % 2), n);
        }
        Check.that("an eleventh", x.seen(0, 0, 0), -1);
        Check.that("ten", x.count(7), 10);
        Check.that("forget()", x.forget(), 10);
        Check.that("forget() again", x.forget(), 0);
        Check.that("seen() anew", x.seen(0, 0, 0), 1);
        Check.that("no other facts", x.count(8) + x.count(9), 0);
    }

    private static void promise35() {
        StreamersHeld x = Check.of(THREE, "0");
        Check.that("all", x.guess(), 60);
        Check.row("all", x, 1, 0, 59);
        x.seen(0, 2, 1);
        Check.that("6 or more", x.guess(), 54);
        Check.row("6 or more", x, 0, 6, 59);
        x.seen(1, 10, 0);
        Check.that("6 to 14", x.guess(), 9);
        Check.row("6 to 14", x, 0, 6, 14);
        x.seen(2, 12, 1);
        Check.that("14", x.guess(), 1);
        Check.row("14", x, 0, 14, 14);
        x.seen(2, 13, 1);
        Check.that("none", x.guess(), 0);
        Check.row("none", x, 0);
        x.forget();
        x.speed(9);
        x.rates(1, 0);
        x.hours(13);
        Check.that("WAY", x.count(2), 69);
        x.seen(0, 65, 1);
        Check.that("none to 59", x.guess(), 0);
        Check.row("WAY as it is does", x, 1);
        x.seen(0, 66, 1);
        Check.that("none to 59", x.guess(), 0);
        Check.row("WAY as it is does not", x, 0);
        x.forget();
        x.seen(0, 54, 1);
        Check.that("from 58", x.guess(), 2);
        Check.row("from 58", x, 1, 58, 59);
        x.forget();
        x.seen(0, -4, 0);
        Check.that("below 0", x.guess(), 0);
        x.forget();
        x.seen(0, -3, 0);
        Check.that("0", x.guess(), 1);
        Check.row("0", x, 0, 0, 0);
    }

    private static void promise35AllElseAsItIs() {
        StreamersHeld x = Check.of(THREE, "0");
        x.seen(0, 2, 1);
        x.runs(0, 0);
        Check.that("PLACE as it is", x.guess(), 58);
        Check.row("PLACE as it is", x, 0, 2, 59);
        x.rates(0, 3);
        x.hours(1);
        Check.that("LENGTH as it is", x.guess(), 55);
        Check.row("LENGTH as it is", x, 0, 5, 59);
    }

    private static void promise36() {
        StreamersHeld x = Check.of(THREE, "0");
        Check.that("of 60", x.looks(), 99 + 26);
        Check.row("of 60", x, 30);
        x.seen(0, 2, 1);
        x.seen(1, 10, 0);
        Check.that("of 6 to 14", x.looks(), 99 + 6);
        Check.row("of 6 to 14", x, 5);
        x.seen(2, 12, 1);
        Check.that("of 14", x.looks(), 0);
        Check.row("of 14", x, 1);
        x.seen(2, 12, 0);
        Check.that("none is left", x.looks(), -2);
        Check.row("the ROW stays", x, 1);
        Check.that("no STREAMERS", new StreamersHeld().looks(), -2);
        x.forget();
        x.seen(0, -3, 0);
        Check.that("of 0", x.looks(), 0);
        Check.row("of 0", x, 1);
        x.forget();
        x.seen(0, -2, 0);
        Check.that("of 0 and 1", x.looks(), 96);
        Check.row("of 0 and 1", x, 1);
        x = Check.of("p39999;g30000", "0");
        x.drops(1);
        x.hours(11);
        x.reels(0, 99);
        x.hours(11);
        Check.that("LENGTH", x.streamer(0, 5), 198);
        Check.that("the first can't tell", x.looks(), 200 + 99 + 30);
        Check.row("the first can't tell", x, 30);
    }

    private static void promise37And38() {
        StreamersHeld x = new StreamersHeld();
        int[][] none = {{0, -1}, {0, 4}, {1, 0}, {1, 10}, {2, -1}, {2, 2}, {3, -1}, {3, 10},
            {4, -1}, {4, 2}, {-1, 0}, {5, 0}, {5, 1}};
        for (int[] a : none) {
            Check.that("heard() refused", x.heard(a[0], a[1]), -1);
        }
        Check.that("none", x.denies(), 0);
        int[][] some = {{0, 0}, {0, 3}, {1, 1}, {1, 9}, {2, 0}, {2, 1}, {3, 0}, {3, 9}, {4, 0},
            {4, 1}, {0, 1}, {0, 1}};
        for (int i = 0; i < some.length; i++) {
            Check.that("heard()", x.heard(some[i][0], some[i][1]), i + 1);
        }
        Check.that("a thirteenth", x.heard(0, 0), -1);
        Check.that("twelve", x.count(9), 12);
        Check.that("denies()", x.denies(), 12);
        Check.that("denies() again", x.denies(), 0);
        Check.that("heard() anew", x.heard(0, 0), 1);
    }

    private static void promise39() {
        StreamersHeld x = Check.of(THREE, "0");
        Check.that("no STREAMERS", new StreamersHeld().fits(), 0);
        Check.that("nothing heard", x.fits(), 7);
        Check.row("nothing heard", x, 3);
        x.drops(1);
        x.hours(2);
        int[][] rumours = {{0, 0}, {0, 1}, {0, 2}, {0, 3}, {1, 1}, {1, 5}, {1, 6}, {1, 7}, {1, 8},
            {1, 9}, {2, 1}, {2, 0}, {3, 0}, {3, 2}, {3, 3}, {3, 4}, {3, 5}, {3, 6}, {4, 1}, {4, 0}};
        int[] want = {1, 2, 4, 0, 7, 7, 6, 6, 4, 4, 5, 2, 7, 7, 3, 3, 2, 0, 5, 2};
        for (int i = 0; i < rumours.length; i++) {
            x.heard(rumours[i][0], rumours[i][1]);
            Check.that("fits() " + i, x.fits(), want[i]);
            Check.row("fits() " + i, x, Integer.bitCount(want[i]));
            x.denies();
        }
        x.heard(1, 6);
        x.heard(2, 1);
        Check.that("both", x.fits(), 4);
        x.drops(1);
        Check.that("as it is when asked", x.fits(), 6);
        x.heard(0, 3);
        Check.that("none", x.fits(), 0);
        Check.row("none", x, 0);
    }

    private static void promise40() {
        StreamersHeld x = Check.of("p50304;p71015;b90002;b90009", "0");
        Check.that("COLOUR is pink", x.asks(), 0);
        Check.row("COLOUR is pink", x, 2);
        x.heard(0, 0);
        Check.that("STRENGTH 6 or more", x.asks(), 16);
        Check.row("STRENGTH 6 or more", x, 1);
        x.denies();
        x.heard(0, 2);
        Check.that("PLACE 3 or more", x.asks(), 33);
        Check.row("PLACE 3 or more", x, 1);
        x.heard(3, 9);
        Check.that("one is left", x.asks(), 0);
        Check.row("one is left", x, 1);
        x.heard(0, 0);
        Check.that("none fits", x.asks(), -2);
        Check.row("the ROW stays", x, 1);
        x = Check.of("p50000;p50000", "0");
        Check.that("can't be told", x.asks(), 0);
        Check.row("can't be told", x, 2);
        x.drops(1);
        Check.that("it HOLDS not", x.asks(), 20);
        Check.row("it HOLDS not", x, 1);
        x = Check.of("p50050;p50000", "0");
        x.hours(1);
        Check.that("nothing tells them but LENGTH", x.asks(), 0);
        Check.row("nothing tells them but LENGTH", x, 2);
        x = Check.of("p50950;p50000", "0");
        x.hours(1);
        Check.that("it is not TAUT", x.asks(), 40);
        Check.row("it is not TAUT", x, 1);
        Check.that("no STREAMERS", new StreamersHeld().asks(), -2);
    }

    private static void promise42And43() {
        StreamersHeld x = new StreamersHeld();
        int[][] none = {{-1, 1, 0}, {21, 1, 0}, {0, 0, 0}, {0, 10, 0}, {0, 1, -1}, {0, 1, 2}};
        for (int[] a : none) {
            Check.that("saw() refused", x.saw(a[0], a[1], a[2]), -1);
        }
        Check.that("none", x.clears(), 0);
        for (int n = 1; n <= 10; n++) {
            Check.that("saw()", x.saw(n % 2 * 20, n % 2 == 0 ? 1 : 9, n % 2), n);
        }
        Check.that("an eleventh", x.saw(0, 1, 0), -1);
        Check.that("ten", x.count(8), 10);
        Check.that("clears()", x.clears(), 10);
        Check.that("clears() again", x.clears(), 0);
        Check.that("saw() anew", x.saw(0, 1, 0), 1);
    }

    private static void promise44() {
        StreamersHeld x = new StreamersHeld();
        Check.that("all", x.laws(), 40);
        Check.row("all", x, 1, 0);
        x.saw(4, 5, 1);
        Check.that("a times 4 is above 5 and b", x.laws(), 20);
        Check.row("a times 4 is above 5 and b", x, 2, 0);
        x.saw(4, 5, 0);
        Check.that("both can't be", x.laws(), 0);
        Check.row("both can't be", x);
        x.clears();
        x.saw(4, 5, 0);
        Check.that("not above", x.laws(), 20);
        Check.row("not above", x, 1, 0);
        x.clears();
        x.saw(9, 6, 0);
        x.saw(9, 5, 1);
        Check.that("9 is above 5 and 3", x.laws(), 1);
        Check.row("9 is above 5 and 3", x, 1, 3);
        x.clears();
        x.saw(20, 1, 0);
        Check.that("20 is above 10", x.laws(), 0);
        x.clears();
        x.saw(0, 1, 1);
        Check.that("0 is above none", x.laws(), 0);
        x.clears();
        x.saw(2, 1, 1);
        x.saw(4, 7, 0);
        Check.that("some of each", x.laws(), 1 + 2);
        Check.row("some of each", x, 1, 0);
    }

    /** By each law some partings are seen; which laws fit, and what to try, is gone through. */
    private static void eachLaw() {
        int[][] seen = {{9, 8}, {2, 1}, {5, 9}, {7, 3}, {3, 6}, {13, 9}, {10, 4}};
        for (int law = 0; law < 40; law++) {
            for (int many = 1; many <= seen.length; many++) {
                StreamersHeld x = new StreamersHeld();
                boolean[] fits = new boolean[40];
                for (int other = 0; other < 40; other++) {
                    fits[other] = true;
                    for (int i = 0; i < many; i++) {
                        fits[other] &= breaks(other, seen[i]) == breaks(law, seen[i]);
                    }
                }
                for (int i = 0; i < many; i++) {
                    x.saw(seen[i][0], seen[i][1], breaks(law, seen[i]) ? 1 : 0);
                }
                judge(x, fits, "law " + law + ", " + many + " seen");
            }
        }
    }

    private static boolean breaks(int law, int[] by) {
        return (1 + law / 10) * by[0] > by[1] + law % 10;
    }

    private static void judge(StreamersHeld x, boolean[] fits, String what) {
        int many = 0;
        int least = -1;
        for (int law = 39; law >= 0; law--) {
            if (fits[law]) {
                many++;
                least = law;
            }
        }
        Check.that(what + ", laws()", x.laws(), many);
        Check.row(what + ", laws()", x, 1 + least / 10, least % 10);
        int best = -1;
        int fewest = 99;
        for (int by = 0; by < 210; by++) {
            int so = 0;
            for (int law = 0; law < 40; law++) {
                so += fits[law] && breaks(law, new int[] {by / 10, by % 10}) ? 1 : 0;
            }
            if (by % 10 != 0 && Math.max(so, many - so) < fewest) {
                fewest = Math.max(so, many - so);
                best = by;
            }
        }
        Check.that(what + ", tries()", x.tries(), best);
        Check.row(what + ", tries()", x, fewest);
    }

    private static void promise45() {
        StreamersHeld x = new StreamersHeld();
        Check.that("of 40", x.tries(), 45);
        Check.row("of 40", x, 20);
        x.saw(9, 6, 0);
        x.saw(9, 5, 1);
        Check.that("of one", x.tries(), 1);
        Check.row("of one", x, 1);
        x.saw(9, 5, 0);
        Check.that("none fits", x.tries(), -2);
        Check.row("the ROW stays", x, 1);
    }
}
