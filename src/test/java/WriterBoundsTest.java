/**
 * The boundary cases of 'Writers' and of promises 16 to 19, and of 'What it is', sentence by sentence: the comment
 * above each test is what the document says.
 */
public final class WriterBoundsTest {
    private static final int[] NO_SONG = {Integer.MIN_VALUE, -2, -1, 2, 3, 9, 10, 11, 256, Integer.MAX_VALUE};
    private static final int[] NO_WRITER = {Integer.MIN_VALUE, -2, -1, 6, 7, 256, Integer.MAX_VALUE};
    private static final int[] NO_SHARE = {Integer.MIN_VALUE, -100, -2, -1, 101, 102, 256, Integer.MAX_VALUE};

    public static void main(String[] args) {
        claimSongAndWriterInRange();
        sharesAreZeroToHundred();
        sharesAreAtMostHundredTogether();
        aShareIsReplaced();
        sharesAreOfOneSong();
        disputeSongInRange();
        disputeOfNonePlayed();
        disputeOfAllQueues();
        disputeOfEachPlace();
        disputeOfThePlayThatGoesOn();
        disputeUntilSettled();
        writersInRange();
        playWithoutSharesPaysNothing();
        playPaysAHundred();
        missingCentsGoToTheGreatestRemainders();
        onlyPlaysThatAreOverPay();
        paidBySharesAsTheyAreThen();
        earnedAnewOfNoPlayAndOfMany();
        theLastOf512Calls();
        Check.end();
    }

    /** Two songs of one note, two rooms in which 0 and 1 sing. */
    private static EchoParlour parlour() {
        EchoParlour x = new EchoParlour();
        Check.makeSong(x, "one", 1);
        Check.makeSong(x, "two", 1);
        Check.makeStage(x, 0);
        Check.makeStage(x, 1);
        return x;
    }

    private static void play(EchoParlour x, int song) {
        x.queue(0, song);
        Check.due("a play", x.sing(0, 0), 1100);
    }

    private static void claimAll(EchoParlour x, int song, int... shares) {
        for (int writer = 0; writer < shares.length; writer++) {
            Check.due("the share before of " + writer, x.claim(song, writer, shares[writer]), 0);
        }
    }

    private static void earnedDue(EchoParlour x, String when, int... due) {
        for (int writer = 0; writer < due.length; writer++) {
            Check.due("earned(" + writer + ") " + when, x.earned(writer), due[writer]);
            Check.due("earnedAnew(" + writer + ") " + when, x.earnedAnew(writer), due[writer]);
        }
    }

    /** claim throws IndexOutOfBoundsException as told, of the song or the writer: ahead of the two others. */
    private static void claimSongAndWriterInRange() {
        EchoParlour x = parlour();
        claimIsOutOfRange(x, "nothing claimed");
        x.claim(0, 0, 100);
        x.claim(1, 5, 100);
        claimIsOutOfRange(x, "all claimed");
        Check.due("the first song and writer", x.claim(0, 0, 0), 100);
        Check.due("the last song and writer", x.claim(1, 5, 0), 100);
        for (int writer = 0; writer < 6; writer++) {
            Check.due("writer " + writer, x.claim(1, writer, 1), 0);
        }
    }

    private static void claimIsOutOfRange(EchoParlour x, String when) {
        int[] shares = {-1, 0, 1, 100, 101};
        for (int share : shares) {
            for (int song : NO_SONG) {
                Check.throwsDue(when + ", claim(" + song + ", 0, " + share + ")", Check.INDEX,
                    () -> x.claim(song, 0, share));
                Check.throwsDue(when + ", claim(" + song + ", 6, " + share + ")", Check.INDEX,
                    () -> x.claim(song, 6, share));
            }
            for (int writer : NO_WRITER) {
                Check.throwsDue(when + ", claim(0, " + writer + ", " + share + ")", Check.INDEX,
                    () -> x.claim(0, writer, share));
            }
        }
    }

    /** share: 0 to 100. claim throws IllegalArgumentException if share is out of range: ahead of IllegalState. */
    private static void sharesAreZeroToHundred() {
        EchoParlour x = parlour();
        Check.due("the least share", x.claim(0, 0, 0), 0);
        Check.due("the greatest share", x.claim(0, 0, 100), 0);
        Check.due("the share of before", x.claim(0, 0, 100), 100);
        for (int share : NO_SHARE) {
            Check.throwsDue("claim(0, 0, " + share + ")", Check.ARGUMENT, () -> x.claim(0, 0, share));
            Check.throwsDue("100 claimed, claim(0, 1, " + share + ")", Check.ARGUMENT, () -> x.claim(0, 1, share));
            Check.throwsDue("0 claimed, claim(1, 1, " + share + ")", Check.ARGUMENT, () -> x.claim(1, 1, share));
        }
        Check.due("the share stands", x.claim(0, 0, 0), 100);
    }

    /** Together at most 100. claim throws IllegalStateException if all shares would be above 100 together. */
    private static void sharesAreAtMostHundredTogether() {
        for (int first = 0; first <= 100; first++) {
            EchoParlour x = parlour();
            int rest = 100 - first;
            x.claim(0, 2, first);
            Check.throwsDue(first + " and " + (rest + 1), first == 0 ? Check.ARGUMENT : Check.STATE,
                () -> x.claim(0, 4, rest + 1));
            Check.due(first + " and " + rest, x.claim(0, 4, rest), 0);
            Check.throwsDue("one more for a third", Check.STATE, () -> x.claim(0, 0, 1));
            Check.due("none for a third", x.claim(0, 0, 0), 0);
        }
        EchoParlour x = parlour();
        claimAll(x, 0, 16, 16, 16, 16, 16, 16);
        Check.throwsDue("five more", Check.STATE, () -> x.claim(0, 5, 21));
        Check.due("four more", x.claim(0, 5, 20), 16);
        for (int writer = 0; writer < 5; writer++) {
            int each = writer;
            Check.throwsDue("one more for " + writer, Check.STATE, () -> x.claim(0, each, 17));
            Check.due("as much again for " + writer, x.claim(0, writer, 16), 16);
        }
    }

    /** claim returns the share before. */
    private static void aShareIsReplaced() {
        EchoParlour x = parlour();
        int[] shares = {100, 99, 100, 0, 1, 50, 51, 100};
        int before = 0;
        for (int share : shares) {
            Check.due("claim(0, 3, " + share + ")", x.claim(0, 3, share), before);
            before = share;
        }
        Check.throwsDue("another one", Check.STATE, () -> x.claim(0, 4, 1));
        Check.due("a lower share", x.claim(0, 3, 99), 100);
        Check.due("another one", x.claim(0, 4, 1), 0);
    }

    /** A song has a share for each. */
    private static void sharesAreOfOneSong() {
        EchoParlour x = parlour();
        x.claim(0, 0, 100);
        Check.due("the other song", x.claim(1, 0, 100), 0);
        Check.throwsDue("the first song", Check.STATE, () -> x.claim(0, 1, 1));
        x.dispute(0, true);
        Check.throwsDue("the first song, disputed", Check.STATE, () -> x.claim(0, 1, 1));
        Check.due("a disputed song has its shares", x.claim(0, 0, 99), 100);
        x.dispute(0, false);
        Check.due("a settled song has its shares", x.claim(0, 0, 100), 99);
    }

    /** dispute throws IndexOutOfBoundsException as told. */
    private static void disputeSongInRange() {
        EchoParlour x = parlour();
        x.queue(0, 0);
        for (int song : NO_SONG) {
            Check.throwsDue("dispute(" + song + ", true)", Check.INDEX, () -> x.dispute(song, true));
            Check.throwsDue("dispute(" + song + ", false)", Check.INDEX, () -> x.dispute(song, false));
        }
        Check.due("about(0, 4)", x.about(0, 4), 0);
        Check.due("the first song", x.dispute(0, true), 1);
        Check.due("the last song", x.dispute(1, true), 0);
        Check.due("about(1, 4)", x.about(1, 4), 1);
    }

    /** dispute returns how many plays fall out: none. */
    private static void disputeOfNonePlayed() {
        EchoParlour x = parlour();
        Check.due("no play at all", x.dispute(0, true), 0);
        Check.due("again", x.dispute(0, true), 0);
        Check.due("settled", x.dispute(0, false), 0);
        Check.due("settled again", x.dispute(0, false), 0);
        x.queue(0, 1);
        x.queue(1, 1);
        Check.due("plays of another song", x.dispute(0, true), 0);
        Check.due("settled, never disputed", x.dispute(1, false), 0);
        Check.due("its play stays", x.queued(0, 0), 1);
        Check.due("its other play stays", x.queued(1, 0), 1);
        x.dispute(0, false);
        x.dispute(1, true);
        play(x, 0);
        Check.due("a play that is over", x.dispute(0, true), 0);
        Check.due("was over still", x.about(0, 3), 1);
    }

    /** All plays of it fall out of all queues: of four full ones. */
    private static void disputeOfAllQueues() {
        EchoParlour x = parlour();
        x.room();
        x.room();
        for (int i = 0; i < 32; i++) {
            x.queue(i % 4, 0);
        }
        x.sing(0, 0);
        x.queue(0, 1);
        Check.due("all but the one of another song", x.dispute(0, true), 31);
        Check.due("that stays", x.queued(0, 0), 1);
        for (int room = 0; room < 4; room++) {
            Check.due("the queue of room " + room, x.queued(room, room == 0 ? 1 : 0), -1);
        }
        x.dispute(0, false);
        for (int i = 0; i < 32; i++) {
            if (i != 0) {
                x.queue(i % 4, 0);
            }
        }
        Check.due("all but that one again", x.dispute(0, true), 31);
    }

    /** All plays of it fall out: at each place, the others stay in their order. */
    private static void disputeOfEachPlace() {
        for (int places = 0; places < 256; places++) {
            EchoParlour x = new EchoParlour();
            Check.makeSong(x, "out", 1);
            Check.makeSong(x, "in", 1);
            Check.makeSong(x, "too", 1);
            x.room();
            int[] stay = new int[9];
            int staying = 0;
            for (int place = 0; place < 8; place++) {
                boolean isOut = (places >> place & 1) == 1;
                x.queue(0, isOut ? 0 : 1 + place % 2);
                if (!isOut) {
                    stay[staying++] = 1 + place % 2;
                }
            }
            Check.due("plays that fall out of " + places, x.dispute(0, true), 8 - staying);
            for (int place = 0; place <= 8; place++) {
                int due = place < staying ? stay[place] : -1;
                Check.due("queued(0, " + place + ") of " + places, x.queued(0, place), due);
            }
        }
    }

    /** All plays of it fall out: that which goes on too, and the next one begins with its first note. */
    private static void disputeOfThePlayThatGoesOn() {
        EchoParlour x = new EchoParlour();
        Check.makeSong(x, "out", 3);
        Check.makeSong(x, "in", new int[][] {{5, 1, 1}, {0, 1, 1}});
        Check.makeStage(x, 0);
        x.claim(0, 0, 1);
        x.queue(0, 0);
        x.queue(0, 0);
        x.queue(0, 1);
        x.sing(0, 0);
        x.sing(0, 0);
        Check.due("plays that fall out", x.dispute(0, true), 2);
        Check.due("the first note of the next", x.sing(0, 500), 100);
        Check.due("its last note, its score alone", x.sing(0, 250), 1075);
        Check.due("the one that fell out was not over", x.about(0, 3), 0);
        earnedDue(x, "by a play that fell out", 0, 0, 0, 0, 0, 0);
        x.queue(0, 1);
        x.dispute(0, false);
        x.queue(0, 0);
        x.sing(0, 500);
        Check.due("a play behind that which goes on", x.dispute(0, true), 1);
        Check.due("that which goes on does so", x.sing(0, 0), 1100);
    }

    /** A song that is disputed is not in the lists ..; so until it is settled. */
    private static void disputeUntilSettled() {
        EchoParlour x = parlour();
        Check.due("not disputed at first", x.about(0, 4), 0);
        Check.type(x, "one");
        x.dispute(0, true);
        x.dispute(0, true);
        Check.due("disputed", x.about(0, 4), 1);
        Check.due("the other one is not", x.about(1, 4), 0);
        Check.due("find", x.find(), -1);
        Check.throwsDue("queue", Check.STATE, () -> x.queue(0, 0));
        x.dispute(0, false);
        Check.due("settled", x.about(0, 4), 0);
        Check.due("find, settled", x.find(), 0);
        Check.due("queue, settled", x.queue(0, 0), 1);
        Check.due("plays fall out again", x.dispute(0, true), 1);
    }

    /** Writers are numbered 0 to 5. earned and earnedAnew throw IndexOutOfBoundsException as told. */
    private static void writersInRange() {
        EchoParlour x = parlour();
        claimAll(x, 0, 10, 20, 30, 20, 15, 5);
        play(x, 0);
        earnedDue(x, "of one play", 10, 20, 30, 20, 15, 5);
        for (int writer : NO_WRITER) {
            Check.throwsDue("earned(" + writer + ")", Check.INDEX, () -> x.earned(writer));
            Check.throwsDue("earnedAnew(" + writer + ")", Check.INDEX, () -> x.earnedAnew(writer));
        }
    }

    /** A play that is over pays 100 cents, if some share is above 0, otherwise nothing. */
    private static void playWithoutSharesPaysNothing() {
        EchoParlour x = parlour();
        play(x, 0);
        earnedDue(x, "no share was told", 0, 0, 0, 0, 0, 0);
        claimAll(x, 0, 0, 0, 0, 0, 0, 0);
        x.claim(1, 0, 100);
        play(x, 0);
        earnedDue(x, "shares of 0, and of another song", 0, 0, 0, 0, 0, 0);
        x.claim(0, 5, 1);
        play(x, 0);
        earnedDue(x, "one share above 0, and but 1", 0, 0, 0, 0, 0, 100);
        x.claim(0, 5, 0);
        play(x, 0);
        earnedDue(x, "shares of 0 again", 0, 0, 0, 0, 0, 100);
    }

    /** Each writer gets 100 times the share, divided by all shares together: alone, all, whatever the score. */
    private static void playPaysAHundred() {
        for (int writer = 0; writer < 6; writer++) {
            int[] shares = {1, 2, 99, 100};
            for (int share : shares) {
                EchoParlour x = parlour();
                x.claim(0, writer, share);
                x.queue(0, 0);
                Check.due("a play without a point", x.sing(0, 600), 1000);
                for (int each = 0; each < 6; each++) {
                    Check.due("earned(" + each + ")", x.earned(each), each == writer ? 100 : 0);
                    Check.due("earnedAnew(" + each + ")", x.earnedAnew(each), each == writer ? 100 : 0);
                }
            }
        }
    }

    /** What is missing is 1 more each for those with the greatest remainders, of alike ones the lowest. */
    private static void missingCentsGoToTheGreatestRemainders() {
        int[][] rows = {
            // shares, then what each writer gets; none to five cents are missing
            {29, 0, 0, 4, 1, 16, 58, 0, 0, 8, 2, 32},
            {25, 25, 25, 25, 0, 0, 25, 25, 25, 25, 0, 0},
            {11, 0, 0, 0, 29, 0, 28, 0, 0, 0, 72, 0},
            {4, 0, 0, 0, 9, 0, 31, 0, 0, 0, 69, 0},
            {24, 0, 26, 15, 9, 0, 33, 0, 35, 20, 12, 0},
            {2, 24, 30, 0, 18, 25, 2, 24, 31, 0, 18, 25},
            {0, 0, 0, 1, 1, 1, 0, 0, 0, 34, 33, 33},
            {33, 0, 33, 0, 33, 0, 34, 0, 33, 0, 33, 0},
            {16, 22, 13, 16, 4, 4, 22, 30, 17, 21, 5, 5},
            {10, 22, 0, 26, 22, 0, 13, 28, 0, 32, 27, 0},
            {15, 8, 25, 0, 22, 0, 22, 11, 36, 0, 31, 0},
            {17, 13, 28, 0, 19, 12, 19, 15, 31, 0, 21, 14},
            {6, 14, 10, 6, 14, 30, 8, 18, 13, 7, 17, 37},
            {14, 2, 24, 27, 6, 7, 18, 2, 30, 34, 7, 9},
            {24, 19, 28, 16, 2, 8, 25, 20, 29, 16, 2, 8},
            {1, 1, 1, 1, 1, 1, 17, 17, 17, 17, 16, 16},
            {26, 7, 29, 15, 4, 7, 30, 8, 33, 17, 4, 8},
            {2, 3, 10, 29, 28, 7, 2, 4, 13, 37, 35, 9},
            {14, 27, 1, 7, 1, 1, 27, 53, 2, 14, 2, 2},
            {3, 1, 5, 1, 4, 20, 9, 3, 14, 3, 12, 59},
            {6, 1, 1, 23, 12, 12, 11, 2, 2, 42, 22, 21},
        };
        for (int[] row : rows) {
            EchoParlour x = parlour();
            int together = 0;
            for (int writer = 0; writer < 6; writer++) {
                x.claim(0, writer, row[writer]);
                together += row[6 + writer];
            }
            Check.due("the table itself: cents together", together, 100);
            play(x, 0);
            String when = "by the shares " + row[0] + ", " + row[1] + ", " + row[2] + " ..";
            earnedDue(x, when, row[6], row[7], row[8], row[9], row[10], row[11]);
            play(x, 0);
            earnedDue(x, "twice " + when, 2 * row[6], 2 * row[7], 2 * row[8], 2 * row[9], 2 * row[10], 2 * row[11]);
        }
    }

    /** The score of a play, when its last note is sung ..; the play is over then, and is paid. */
    private static void onlyPlaysThatAreOverPay() {
        EchoParlour x = new EchoParlour();
        Check.makeSong(x, "t", 2);
        Check.makeStage(x, 0);
        x.claim(0, 0, 1);
        x.queue(0, 0);
        earnedDue(x, "by a play that is queued", 0, 0, 0, 0, 0, 0);
        x.sing(0, 0);
        earnedDue(x, "by a play that goes on", 0, 0, 0, 0, 0, 0);
        x.leave(0);
        earnedDue(x, "by a play that fell out", 0, 0, 0, 0, 0, 0);
        x.come(0, 0);
        x.queue(0, 0);
        x.sing(0, 0);
        Check.throwsDue("a refused note", Check.ARGUMENT, () -> x.sing(0, 2401));
        earnedDue(x, "by a refused note", 0, 0, 0, 0, 0, 0);
        x.sing(0, 0);
        earnedDue(x, "by a play that is over", 100, 0, 0, 0, 0, 0);
        Check.throwsDue("a note behind it", Check.STATE, () -> x.sing(0, 0));
        earnedDue(x, "by a note behind it", 100, 0, 0, 0, 0, 0);
    }

    /** Plays that are paid by shares as they are then; earnedAnew: by shares as they were noted. */
    private static void paidBySharesAsTheyAreThen() {
        EchoParlour x = new EchoParlour();
        Check.makeSong(x, "t", 2);
        Check.makeStage(x, 0);
        x.claim(0, 0, 100);
        x.queue(0, 0);
        x.claim(0, 0, 0);
        x.claim(0, 1, 100);
        x.sing(0, 0);
        x.claim(0, 1, 0);
        x.claim(0, 2, 100);
        x.sing(0, 0);
        earnedDue(x, "by the shares at the last note", 0, 0, 100, 0, 0, 0);
        x.claim(0, 2, 0);
        earnedDue(x, "behind a claim of nothing", 0, 0, 100, 0, 0, 0);
        x.claim(0, 3, 100);
        earnedDue(x, "behind a claim of another", 0, 0, 100, 0, 0, 0);
        x.dispute(0, true);
        earnedDue(x, "behind a dispute", 0, 0, 100, 0, 0, 0);
        x.claim(0, 3, 50);
        x.claim(0, 4, 50);
        x.dispute(0, false);
        x.queue(0, 0);
        x.sing(0, 0);
        x.sing(0, 0);
        earnedDue(x, "behind a second play", 0, 0, 100, 50, 50, 0);
    }

    /** earnedAnew returns the same, play by play. */
    private static void earnedAnewOfNoPlayAndOfMany() {
        EchoParlour x = parlour();
        earnedDue(x, "of no play", 0, 0, 0, 0, 0, 0);
        int[] due = new int[6];
        for (int i = 0; i < 24; i++) {
            int writer = i % 6;
            x.claim(i % 2, writer, 100);
            play(x, i % 2);
            x.claim(i % 2, writer, 0);
            due[writer] += 100;
            if (i % 6 == 5) {
                earnedDue(x, "of " + (i + 1) + " plays", due);
            }
        }
        earnedDue(x, "of 24 plays, asked twice", due);
    }

    /** An object is used for at most 512 calls: 8 calls, 251 plays of two calls each, and two that tell of them. */
    private static void theLastOf512Calls() {
        for (int last = 0; last < 6; last++) {
            EchoParlour x = new EchoParlour();
            Check.makeSong(x, "t", 1);
            Check.makeStage(x, 0);
            x.claim(0, 5, 7);
            for (int i = 1; i <= 251; i++) {
                Check.due("play " + i, x.queue(0, 0), 1);
                Check.due("play " + i, x.sing(0, 0), 1100);
            }
            Check.due("the 511th call, earned", x.earned(5), 25100);
            switch (last) {
                case 0: Check.due("the 512th call, earnedAnew", x.earnedAnew(5), 25100); break;
                case 1: Check.due("the 512th call, about", x.about(0, 3), 251); break;
                case 2: Check.due("the 512th call, queue", x.queue(0, 0), 1); break;
                case 3: Check.due("the 512th call, claim", x.claim(0, 5, 0), 7); break;
                case 4: Check.throwsDue("the 512th call, sing", Check.STATE, () -> x.sing(0, 0)); break;
                default: Check.due("the 512th call, leave", x.leave(0), 0); break;
            }
        }
    }
}
