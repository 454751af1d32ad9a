/** Promises 16 to 19: claim, dispute, earned, earnedAnew. */
public final class WritersTest {
    public static void main(String[] args) {
        claims();
        claimsInRange();
        disputes();
        disputesOfThePlayThatGoesOn();
        disputesInRange();
        earns();
        earnsBySharesAsTheyAreThen();
        earnsOfManySongs();
        earnsOfAsManyPlaysAsMayBe();
        earnsInRange();
        Check.end();
    }

    private static EchoParlour parlour(int songs) {
        EchoParlour x = new EchoParlour();
        for (int i = 0; i < songs; i++) {
            Check.makeSong(x, "t" + (char) ('a' + i), 1);
        }
        x.room();
        x.room();
        x.come(0, 0);
        x.come(1, 1);
        return x;
    }

    private static void play(EchoParlour x, int song) {
        x.queue(0, song);
        Check.due("a play", x.sing(0, 0), 1100);
    }

    private static void earnedDue(EchoParlour x, String when, int... due) {
        for (int writer = 0; writer < due.length; writer++) {
            Check.due("earned(" + writer + ") " + when, x.earned(writer), due[writer]);
            Check.due("earnedAnew(" + writer + ") " + when, x.earnedAnew(writer), due[writer]);
        }
    }

    private static void claims() {
        EchoParlour x = parlour(2);
        Check.due("the first claim", x.claim(0, 0, 60), 0);
        Check.due("a claim of another", x.claim(0, 5, 40), 0);
        Check.throwsDue("101 together", Check.STATE, () -> x.claim(0, 3, 1));
        Check.throwsDue("101 together by a greater share", Check.STATE, () -> x.claim(0, 0, 61));
        Check.due("the same share", x.claim(0, 0, 60), 60);
        Check.due("a lower share", x.claim(0, 0, 59), 60);
        Check.due("100 together again", x.claim(0, 3, 1), 0);
        Check.due("the other song has shares of its own", x.claim(1, 0, 100), 0);
        Check.due("no share", x.claim(1, 0, 0), 100);
        Check.due("all shares to another", x.claim(1, 2, 100), 0);
        x.dispute(1, true);
        Check.due("a claim to a disputed song", x.claim(1, 2, 7), 100);
        Check.due("and again", x.claim(1, 2, 8), 7);
    }

    private static void claimsInRange() {
        EchoParlour x = parlour(1);
        int[] songs = {-1, 1, 10, Integer.MIN_VALUE, Integer.MAX_VALUE};
        int[] writers = {-1, 6, 10, Integer.MIN_VALUE, Integer.MAX_VALUE};
        int[] shares = {-1, 101, 1000, Integer.MIN_VALUE, Integer.MAX_VALUE};
        for (int i = 0; i < songs.length; i++) {
            int song = songs[i];
            int writer = writers[i];
            int share = shares[i];
            Check.throwsDue("claim(" + song + ", 0, 1)", Check.INDEX, () -> x.claim(song, 0, 1));
            Check.throwsDue("claim(0, " + writer + ", 1)", Check.INDEX, () -> x.claim(0, writer, 1));
            Check.throwsDue("claim(0, 0, " + share + ")", Check.ARGUMENT, () -> x.claim(0, 0, share));
            Check.throwsDue("claim(" + song + ", 0, " + share + ")", Check.INDEX, () -> x.claim(song, 0, share));
            Check.throwsDue("claim(0, " + writer + ", " + share + ")", Check.INDEX, () -> x.claim(0, writer, share));
        }
        x.claim(0, 1, 100);
        Check.throwsDue("claim(0, 0, 101), 100 are claimed", Check.ARGUMENT, () -> x.claim(0, 0, 101));
        Check.throwsDue("claim(0, 0, 100), 100 are claimed", Check.STATE, () -> x.claim(0, 0, 100));
        Check.due("claim(0, 0, 0)", x.claim(0, 0, 0), 0);
    }

    private static void disputes() {
        EchoParlour x = parlour(3);
        int[] songs = {0, 1, 1, 2, 1, 0, 1};
        for (int song : songs) {
            x.queue(0, song);
        }
        x.queue(1, 2);
        x.queue(1, 1);
        Check.due("plays that fall out", x.dispute(1, true), 5);
        int[] due = {0, 2, 0, -1};
        for (int place = 0; place < due.length; place++) {
            Check.due("queued(0, " + place + ")", x.queued(0, place), due[place]);
        }
        Check.due("queued(1, 0)", x.queued(1, 0), 2);
        Check.due("queued(1, 1)", x.queued(1, 1), -1);
        Check.due("disputed once more", x.dispute(1, true), 0);
        Check.due("disputed still", x.about(1, 4), 1);
        Check.throwsDue("queue of it", Check.STATE, () -> x.queue(0, 1));
        Check.due("settled", x.dispute(1, false), 0);
        Check.due("settled once more", x.dispute(1, false), 0);
        Check.due("no more disputed", x.about(1, 4), 0);
        Check.due("queue of it again", x.queue(0, 1), 4);
        Check.due("settled while it is queued", x.dispute(1, false), 0);
        Check.due("queued(0, 3)", x.queued(0, 3), 1);
        Check.due("plays that were over", x.about(1, 3), 0);
        EchoParlour y = parlour(1);
        for (int i = 0; i < 16; i++) {
            y.queue(i % 2, 0);
        }
        Check.due("whole queues fall out", y.dispute(0, true), 16);
        Check.due("queue 0 is empty", y.queued(0, 0), -1);
        Check.due("queue 1 is empty", y.queued(1, 0), -1);
    }

    private static void disputesOfThePlayThatGoesOn() {
        EchoParlour x = new EchoParlour();
        Check.makeSong(x, "one", 2);
        Check.makeSong(x, "two", 2);
        x.room();
        x.room();
        x.come(0, 0);
        x.come(1, 1);
        x.queue(0, 0);
        x.queue(0, 1);
        x.queue(1, 1);
        x.queue(1, 0);
        x.sing(0, 0);
        x.sing(1, 0);
        Check.due("plays that fall out", x.dispute(0, true), 2);
        Check.due("the play behind it begins anew", x.sing(0, 600), 0);
        Check.due("and has its two notes", x.sing(0, 600), 1000);
        Check.due("the play ahead of one that fell out goes on", x.sing(1, 0), 1100);
        Check.throwsDue("nothing is queued any more", Check.STATE, () -> x.sing(1, 0));
        Check.due("the play that fell out was not over", x.about(0, 3), 0);
        Check.due("it has no score", x.about(0, 2), -1);
        x.queue(0, 1);
        x.come(0, 2);
        x.sing(0, 0);
        x.dispute(1, true);
        x.dispute(1, false);
        x.queue(0, 1);
        x.pass();
        Check.due("a play of which no note was sung stays", x.queued(0, 0), 1);
    }

    private static void disputesInRange() {
        EchoParlour x = parlour(1);
        int[] wrong = {-1, 1, 10, Integer.MIN_VALUE, Integer.MAX_VALUE};
        for (int song : wrong) {
            Check.throwsDue("dispute(" + song + ", true)", Check.INDEX, () -> x.dispute(song, true));
            Check.throwsDue("dispute(" + song + ", false)", Check.INDEX, () -> x.dispute(song, false));
        }
    }

    private static void earns() {
        int[][] shares = {
            {0, 0, 0, 0, 0, 0}, {1, 0, 0, 0, 0, 0}, {0, 0, 0, 0, 0, 1}, {100, 0, 0, 0, 0, 0}, {1, 1, 0, 0, 0, 0},
            {1, 1, 1, 0, 0, 0}, {0, 1, 0, 1, 0, 1}, {2, 2, 2, 0, 0, 0}, {1, 1, 1, 1, 1, 1}, {16, 16, 16, 16, 16, 16},
            {50, 25, 24, 0, 0, 0}, {1, 2, 0, 0, 0, 0}, {2, 1, 0, 0, 0, 0}, {1, 1, 1, 1, 1, 2}, {3, 3, 1, 0, 0, 0},
            {1, 3, 3, 0, 0, 0}, {10, 20, 30, 40, 0, 0}, {33, 33, 33, 0, 0, 0}, {1, 5, 5, 5, 5, 5}, {0, 0, 7, 0, 9, 1},
        };
        int[][] due = {
            {0, 0, 0, 0, 0, 0}, {100, 0, 0, 0, 0, 0}, {0, 0, 0, 0, 0, 100}, {100, 0, 0, 0, 0, 0}, {50, 50, 0, 0, 0, 0},
            {34, 33, 33, 0, 0, 0}, {0, 34, 0, 33, 0, 33}, {34, 33, 33, 0, 0, 0}, {17, 17, 17, 17, 16, 16},
            {17, 17, 17, 17, 16, 16}, {51, 25, 24, 0, 0, 0}, {33, 67, 0, 0, 0, 0}, {67, 33, 0, 0, 0, 0},
            {15, 14, 14, 14, 14, 29}, {43, 43, 14, 0, 0, 0}, {14, 43, 43, 0, 0, 0}, {10, 20, 30, 40, 0, 0},
            {34, 33, 33, 0, 0, 0}, {4, 20, 19, 19, 19, 19}, {0, 0, 41, 0, 53, 6},
        };
        for (int i = 0; i < shares.length; i++) {
            EchoParlour x = parlour(1);
            for (int writer = 0; writer < 6; writer++) {
                x.claim(0, writer, shares[i][writer]);
            }
            earnedDue(x, "before the play, shares " + i, 0, 0, 0, 0, 0, 0);
            play(x, 0);
            earnedDue(x, "of shares " + i, due[i]);
        }
    }

    private static void earnsBySharesAsTheyAreThen() {
        EchoParlour x = parlour(1);
        play(x, 0);
        earnedDue(x, "without shares", 0, 0, 0, 0, 0, 0);
        x.claim(0, 1, 10);
        earnedDue(x, "behind a claim", 0, 0, 0, 0, 0, 0);
        x.queue(0, 0);
        x.claim(0, 2, 10);
        x.sing(0, 600);
        earnedDue(x, "by a claim behind the queue", 0, 50, 50, 0, 0, 0);
        x.claim(0, 1, 0);
        earnedDue(x, "behind a claim of nothing", 0, 50, 50, 0, 0, 0);
        play(x, 0);
        earnedDue(x, "by the other alone", 0, 50, 150, 0, 0, 0);
        x.claim(0, 2, 0);
        play(x, 0);
        earnedDue(x, "by no share", 0, 50, 150, 0, 0, 0);
        x.claim(0, 3, 3);
        x.queue(0, 0);
        x.dispute(0, true);
        earnedDue(x, "behind a dispute", 0, 50, 150, 0, 0, 0);
        x.dispute(0, false);
        play(x, 0);
        earnedDue(x, "behind a settlement", 0, 50, 150, 100, 0, 0);
    }

    private static void earnsOfManySongs() {
        EchoParlour x = parlour(3);
        x.claim(0, 0, 1);
        x.claim(0, 1, 1);
        x.claim(0, 2, 1);
        x.claim(1, 2, 2);
        x.claim(1, 5, 1);
        play(x, 0);
        play(x, 1);
        play(x, 2);
        play(x, 0);
        earnedDue(x, "of three songs", 68, 66, 133, 0, 0, 33);
        x.queue(1, 1);
        x.sing(1, 0);
        earnedDue(x, "of three songs in two rooms", 68, 66, 200, 0, 0, 66);
        EchoParlour y = new EchoParlour();
        Check.makeSong(y, "t", 2);
        y.claim(0, 0, 1);
        y.room();
        y.come(0, 0);
        y.queue(0, 0);
        y.sing(0, 0);
        y.leave(0);
        earnedDue(y, "of a play that fell out", 0, 0, 0, 0, 0, 0);
    }

    /** The song, its room, its singer and one claim are 8 calls; 250 plays are 500 more, so the answers end at 511. */
    private static void earnsOfAsManyPlaysAsMayBe() {
        EchoParlour x = new EchoParlour();
        Check.makeSong(x, "t", 1);
        x.room();
        x.come(0, 0);
        x.claim(0, 4, 1);
        for (int i = 0; i < 250; i++) {
            x.queue(0, 0);
            x.sing(0, 0);
        }
        Check.due("earned of 250 plays", x.earned(4), 25000);
        Check.due("earnedAnew of 250 plays", x.earnedAnew(4), 25000);
        Check.due("plays that were over", x.about(0, 3), 250);
    }

    private static void earnsInRange() {
        EchoParlour x = parlour(1);
        int[] wrong = {-1, 6, 10, Integer.MIN_VALUE, Integer.MAX_VALUE};
        for (int writer : wrong) {
            Check.throwsDue("earned(" + writer + ")", Check.INDEX, () -> x.earned(writer));
            Check.throwsDue("earnedAnew(" + writer + ")", Check.INDEX, () -> x.earnedAnew(writer));
        }
    }
}
