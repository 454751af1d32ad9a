/**
 * The boundary cases of 'Rooms, plays' that are of plays, and of promises 13 to 15, sentence by sentence: the comment
 * above each test is what the document says.
 */
public final class PlayBoundsTest {
    private static final int[] NO_ROOM = {Integer.MIN_VALUE, -2, -1, 2, 3, 4, 5, 256, Integer.MAX_VALUE};
    private static final int[] NO_SONG = {Integer.MIN_VALUE, -2, -1, 2, 3, 9, 10, 11, 256, Integer.MAX_VALUE};
    private static final int[] NO_CENTS = {Integer.MIN_VALUE, -2400, -2, -1, 2401, 2402, 65536, Integer.MAX_VALUE};

    public static void main(String[] args) {
        atMostEightPlays();
        aPlaceAmongTheEightIsFreeAgain();
        queueRoomAndSongInRange();
        queueOfADisputedSong();
        queueWhereNobodySings();
        singRoomInRange();
        centsAreZeroTo2400();
        singWhereNobodySings();
        singWithoutAPlay();
        everyDistance();
        worthIsAtLeastNothing();
        theLastNoteOfOneToSixteen();
        scoreIsRoundedDown();
        strainAboveTwelve();
        scoreIsAtLeastNothing();
        queuedRoomInRange();
        queuedPlaceInRange();
        queuedOfAFullAndAnEmptyQueue();
        Check.end();
    }

    /** Two rooms, in which 0 and 1 sing; two songs, of one note and of two. */
    private static EchoParlour parlour() {
        EchoParlour x = new EchoParlour();
        Check.makeSong(x, "one", 1);
        Check.makeSong(x, "two", 2);
        Check.makeStage(x, 0);
        Check.makeStage(x, 1);
        return x;
    }

    private static void fill(EchoParlour x, int room, int song) {
        for (int i = 1; i <= 8; i++) {
            Check.due("play " + i, x.queue(room, song), i);
        }
    }

    /** Plays of a room are in a queue, at most 8. queue throws IllegalStateException if 8 are queued. */
    private static void atMostEightPlays() {
        EchoParlour x = parlour();
        fill(x, 0, 0);
        Check.throwsDue("the ninth play", Check.STATE, () -> x.queue(0, 0));
        Check.throwsDue("the ninth play, of another song", Check.STATE, () -> x.queue(0, 1));
        Check.due("the last play", x.queued(0, 7), 0);
        Check.due("no play behind it", x.queued(0, 8), -1);
        fill(x, 1, 1);
        x.sing(1, 0);
        Check.throwsDue("the play that goes on is one of the eight", Check.STATE, () -> x.queue(1, 0));
    }

    private static void aPlaceAmongTheEightIsFreeAgain() {
        EchoParlour x = parlour();
        fill(x, 0, 0);
        x.sing(0, 0);
        Check.due("behind a play that is over", x.queue(0, 1), 8);
        Check.throwsDue("eight again", Check.STATE, () -> x.queue(0, 0));
        for (int i = 0; i < 7; i++) {
            x.sing(0, 0);
        }
        Check.due("one is left", x.queue(0, 0), 2);
        fill(x, 1, 1);
        x.sing(1, 0);
        x.leave(1);
        Check.due("behind a play that fell out", x.queue(1, 0), 8);
        Check.due("all but one fall out", x.dispute(1, true), 7 + 1);
        Check.due("behind seven that fell out", x.queue(1, 0), 2);
    }

    /** queue throws IndexOutOfBoundsException as told, of the room or the song: ahead of IllegalStateException. */
    private static void queueRoomAndSongInRange() {
        EchoParlour x = parlour();
        queueIsOutOfRange(x, "empty");
        fill(x, 0, 0);
        fill(x, 1, 1);
        queueIsOutOfRange(x, "full");
        x.dispute(0, true);
        x.dispute(1, true);
        queueIsOutOfRange(x, "disputed");
        x.dispute(0, false);
        x.dispute(1, false);
        for (int room = 0; room < 2; room++) {
            Check.due("the first song", x.queue(room, 0), 1);
            Check.due("the last song", x.queue(room, 1), 2);
        }
    }

    private static void queueIsOutOfRange(EchoParlour x, String when) {
        for (int room : NO_ROOM) {
            for (int song : NO_SONG) {
                Check.throwsDue(when + ", queue(" + room + ", 0)", Check.INDEX, () -> x.queue(room, 0));
                Check.throwsDue(when + ", queue(0, " + song + ")", Check.INDEX, () -> x.queue(0, song));
                Check.throwsDue(when + ", queue(" + room + ", " + song + ")", Check.INDEX, () -> x.queue(room, song));
            }
        }
    }

    /** A song that is disputed .. cannot be .. queued. queue throws IllegalStateException if .. it is disputed. */
    private static void queueOfADisputedSong() {
        EchoParlour x = parlour();
        x.dispute(0, true);
        Check.throwsDue("a disputed song", Check.STATE, () -> x.queue(0, 0));
        Check.throwsDue("in the other room", Check.STATE, () -> x.queue(1, 0));
        Check.due("nothing is queued", x.queued(0, 0), -1);
        Check.due("the other song", x.queue(0, 1), 1);
        x.dispute(1, false);
        Check.throwsDue("another song settled", Check.STATE, () -> x.queue(0, 0));
        x.dispute(0, true);
        x.dispute(0, false);
        Check.due("settled", x.queue(0, 0), 2);
        for (int i = 3; i <= 8; i++) {
            x.queue(0, 1);
        }
        x.dispute(0, true);
        x.queue(0, 1);
        Check.throwsDue("full, and disputed", Check.STATE, () -> x.queue(0, 0));
    }

    private static void queueWhereNobodySings() {
        EchoParlour x = parlour();
        x.leave(0);
        fill(x, 0, 0);
        Check.throwsDue("nobody sings", Check.STATE, () -> x.sing(0, 0));
        x.come(0, 0);
        Check.due("one has come", x.sing(0, 0), 1100);
    }

    /** sing throws IndexOutOfBoundsException as told: ahead of the two others. */
    private static void singRoomInRange() {
        EchoParlour x = parlour();
        x.queue(0, 0);
        x.queue(1, 0);
        for (int room : NO_ROOM) {
            Check.throwsDue("sing(" + room + ", 0)", Check.INDEX, () -> x.sing(room, 0));
            Check.throwsDue("sing(" + room + ", 2400)", Check.INDEX, () -> x.sing(room, 2400));
            for (int cents : NO_CENTS) {
                Check.throwsDue("sing(" + room + ", " + cents + ")", Check.INDEX, () -> x.sing(room, cents));
            }
        }
        Check.due("the first room", x.sing(0, 0), 1100);
        Check.due("the last room", x.sing(1, 0), 1100);
    }

    /** Cents, 0 to 2400. sing throws IllegalArgumentException if cents is out of range: ahead of IllegalState. */
    private static void centsAreZeroTo2400() {
        EchoParlour x = parlour();
        for (int cents : NO_CENTS) {
            Check.throwsDue("no play, sing(0, " + cents + ")", Check.ARGUMENT, () -> x.sing(0, cents));
        }
        x.leave(0);
        for (int cents : NO_CENTS) {
            Check.throwsDue("nobody, no play, sing(0, " + cents + ")", Check.ARGUMENT, () -> x.sing(0, cents));
        }
        x.queue(0, 1);
        for (int cents : NO_CENTS) {
            Check.throwsDue("nobody, sing(0, " + cents + ")", Check.ARGUMENT, () -> x.sing(0, cents));
        }
        x.come(0, 0);
        for (int cents : NO_CENTS) {
            Check.throwsDue("sing(0, " + cents + ")", Check.ARGUMENT, () -> x.sing(0, cents));
        }
        Check.due("sing(0, 0)", x.sing(0, 0), 100);
        for (int cents : NO_CENTS) {
            Check.throwsDue("a note sung, sing(0, " + cents + ")", Check.ARGUMENT, () -> x.sing(0, cents));
        }
        Check.due("sing(0, 2400)", x.sing(0, 2400), 1100);
    }

    /** sing throws IllegalStateException if nobody sings in the room. */
    private static void singWhereNobodySings() {
        EchoParlour x = parlour();
        x.room();
        x.queue(0, 0);
        x.queue(2, 0);
        Check.throwsDue("a room to which nobody came", Check.STATE, () -> x.sing(2, 0));
        x.leave(0);
        Check.throwsDue("a room which all left", Check.STATE, () -> x.sing(0, 0));
        Check.throwsDue("once more", Check.STATE, () -> x.sing(0, 2400));
        Check.due("the play is queued still", x.queued(0, 0), 0);
        x.come(0, 5);
        x.come(0, 6);
        x.leave(5);
        Check.due("one who waited sings", x.sing(0, 0), 1100);
    }

    /** sing throws IllegalStateException if .. no play is queued. */
    private static void singWithoutAPlay() {
        EchoParlour x = parlour();
        Check.throwsDue("nothing was queued", Check.STATE, () -> x.sing(0, 0));
        x.queue(1, 0);
        Check.throwsDue("something is queued in another room", Check.STATE, () -> x.sing(0, 0));
        x.queue(0, 0);
        x.sing(0, 0);
        Check.throwsDue("the play is over", Check.STATE, () -> x.sing(0, 0));
        x.queue(0, 1);
        x.sing(0, 0);
        x.dispute(1, true);
        Check.throwsDue("the play fell out", Check.STATE, () -> x.sing(0, 0));
        Check.due("plays over", x.about(0, 3), 1);
    }

    /** The distance the long way: from the pitch to the nearest of its octaves, one cent after the other. */
    private static int worthOf(int pitch, int cents) {
        int distance = 0;
        while ((cents + distance - 100 * pitch) % 1200 != 0 && (cents - distance - 100 * pitch) % 1200 != 0) {
            distance++;
        }
        int lost = 0;
        while (5 * (lost + 1) <= distance) {
            lost++;
        }
        return lost > 100 ? 0 : 100 - lost;
    }

    /** By its remainder by 1200, but never more than 600: with a greater remainder 1200 less that. */
    private static void everyDistance() {
        for (int pitch = 0; pitch <= 24; pitch++) {
            EchoParlour x = songOfPitch(pitch);
            int calls = 0;
            for (int cents = 0; cents <= 2400; cents++) {
                // An object is used for 512 calls, so a new one is taken in time.
                calls += 2;
                if (calls > 480) {
                    x = songOfPitch(pitch);
                    calls = 2;
                }
                x.queue(0, 0);
                Check.due("pitch " + pitch + " sung as " + cents, x.sing(0, cents), 1000 + worthOf(pitch, cents));
            }
        }
    }

    private static EchoParlour songOfPitch(int pitch) {
        EchoParlour x = new EchoParlour();
        Check.makeSong(x, "t", new int[][] {{pitch, 1, 0}});
        Check.makeStage(x, 0);
        return x;
    }

    private static void worthDue(int pitch, int cents, int due) {
        EchoParlour x = songOfPitch(pitch);
        x.queue(0, 0);
        Check.due("pitch " + pitch + " sung as " + cents, x.sing(0, cents), 1000 + due);
    }

    /** A note is worth 100 less a number, at least 0: that number is a fifth of its distance, rounded down. */
    private static void worthIsAtLeastNothing() {
        int[] distances = {0, 1, 4, 5, 6, 9, 10, 494, 495, 499, 500, 501, 504, 505, 599, 600};
        int[] due = {100, 100, 100, 99, 99, 99, 98, 2, 1, 1, 0, 0, 0, 0, 0, 0};
        for (int i = 0; i < distances.length; i++) {
            worthDue(12, 1200 + distances[i], due[i]);
            worthDue(12, 1200 - distances[i], due[i]);
            worthDue(0, distances[i], due[i]);
            worthDue(0, 1200 - distances[i], due[i]);
            worthDue(0, 1200 + distances[i], due[i]);
            worthDue(0, 2400 - distances[i], due[i]);
            worthDue(24, distances[i], due[i]);
            worthDue(24, 1200 - distances[i], due[i]);
            worthDue(24, 1200 + distances[i], due[i]);
            worthDue(24, 2400 - distances[i], due[i]);
        }
    }

    /** sing returns what it is worth; 1000 and the score, together, if it was the last one. */
    private static void theLastNoteOfOneToSixteen() {
        for (int notes = 1; notes <= 16; notes++) {
            EchoParlour x = new EchoParlour();
            int[][] rows = new int[notes][];
            for (int i = 0; i < notes; i++) {
                rows[i] = new int[] {i, 1, 1};
            }
            Check.makeSong(x, "t", rows);
            Check.makeStage(x, 0);
            x.queue(0, 0);
            x.queue(0, 0);
            for (int i = 0; i < notes - 1; i++) {
                Check.due("note " + i + " of " + notes, x.sing(0, 100 * i), 100);
                Check.due("the play goes on", x.about(0, 3), 0);
            }
            Check.due("the last note of " + notes, x.sing(0, 100 * (notes - 1)), 1100);
            Check.due("the play is over", x.about(0, 3), 1);
            Check.due("the next play", x.queued(0, 0), 0);
            Check.due("no play behind it", x.queued(0, 1), -1);
            Check.due("the first note of the next", x.sing(0, 0), notes == 1 ? 1100 : 100);
        }
    }

    /** The sum of what its notes are worth, divided by how many they are, rounded down. */
    private static void scoreIsRoundedDown() {
        int[][] cents = {{0, 0, 0}, {0, 0, 5}, {0, 5, 5}, {5, 5, 5}, {600, 600, 0}, {600, 600, 495}, {600, 495, 490},
            {600, 490, 490}, {600, 600, 490}, {495, 495, 495}, {600, 600, 600}};
        int[] due = {100, 99, 99, 99, 33, 0, 1, 1, 0, 1, 0};
        for (int i = 0; i < cents.length; i++) {
            EchoParlour x = new EchoParlour();
            Check.makeSong(x, "t", 3);
            Check.makeStage(x, 0);
            x.queue(0, 0);
            x.sing(0, cents[i][0]);
            x.sing(0, cents[i][1]);
            Check.due("score " + i, x.sing(0, cents[i][2]), 1000 + due[i]);
            Check.due("best score " + i, x.about(0, 2), due[i]);
        }
    }

    /** Sings a song of notes of pitch 0 with so many cents each; returns what the last one answers. */
    private static int singAll(int[][] notes, int cents) {
        EchoParlour x = new EchoParlour();
        Check.makeSong(x, "t", notes);
        Check.makeStage(x, 0);
        x.queue(0, 0);
        int answer = 0;
        for (int i = 0; i < notes.length; i++) {
            answer = x.sing(0, cents);
        }
        Check.due("best score", x.about(0, 2), answer - 1000);
        return answer;
    }

    /** So many notes that the beats are as many as they shall be in a row: 1 to 64. */
    private static int[][] notesOfStrain(int strain) {
        int notes = (strain + 3) / 4;
        int[][] rows = new int[notes][];
        for (int i = 0; i < notes; i++) {
            rows[i] = new int[] {0, i < notes - 1 ? 4 : strain - 4 * (notes - 1), 0};
        }
        return rows;
    }

    /** Less 2 for each beat by which the strain is above 12. */
    private static void strainAboveTwelve() {
        for (int strain = 1; strain <= 64; strain++) {
            int due = strain <= 12 ? 100 : Math.max(0, 124 - 2 * strain);
            Check.due("score with the strain " + strain, singAll(notesOfStrain(strain), 0), 1000 + due);
        }
        int[][] withBreath = {{0, 4, 0}, {0, 4, 0}, {0, 4, 1}, {0, 1, 0}};
        Check.due("12 beats, a breath and one more", singAll(withBreath, 0), 1100);
    }

    /** The score .. at least 0. */
    private static void scoreIsAtLeastNothing() {
        Check.due("100 less 98", singAll(notesOfStrain(61), 0), 1002);
        Check.due("100 less 100", singAll(notesOfStrain(62), 0), 1000);
        Check.due("100 less 102", singAll(notesOfStrain(63), 0), 1000);
        Check.due("100 less 104", singAll(notesOfStrain(64), 0), 1000);
        Check.due("3 less 2", singAll(notesOfStrain(13), 485), 1001);
        Check.due("2 less 2", singAll(notesOfStrain(13), 490), 1000);
        Check.due("1 less 2", singAll(notesOfStrain(13), 495), 1000);
        Check.due("0 less 2", singAll(notesOfStrain(13), 600), 1000);
        Check.due("1 less 0", singAll(notesOfStrain(12), 495), 1001);
        Check.due("0 less 0", singAll(notesOfStrain(12), 500), 1000);
    }

    /** queued throws IndexOutOfBoundsException as told. */
    private static void queuedRoomInRange() {
        EchoParlour x = parlour();
        x.queue(0, 1);
        x.queue(1, 0);
        for (int room : NO_ROOM) {
            Check.throwsDue("queued(" + room + ", 0)", Check.INDEX, () -> x.queued(room, 0));
            Check.throwsDue("queued(" + room + ", 8)", Check.INDEX, () -> x.queued(room, 8));
            Check.throwsDue("queued(" + room + ", -1)", Check.INDEX, () -> x.queued(room, -1));
        }
        Check.due("the first room", x.queued(0, 0), 1);
        Check.due("the last room", x.queued(1, 0), 0);
    }

    /** queued throws IndexOutOfBoundsException .. if place is below 0; returns NONE if there are not so many. */
    private static void queuedPlaceInRange() {
        int[] below = {Integer.MIN_VALUE, -256, -8, -2, -1};
        int[] above = {9, 10, 255, 256, 65536, Integer.MAX_VALUE - 1, Integer.MAX_VALUE};
        EchoParlour x = parlour();
        for (int plays = 0; plays <= 8; plays++) {
            for (int place : below) {
                Check.throwsDue("queued(0, " + place + ") of " + plays, Check.INDEX, () -> x.queued(0, place));
            }
            for (int place = 0; place <= 8; place++) {
                Check.due("queued(0, " + place + ") of " + plays, x.queued(0, place), place < plays ? place % 2 : -1);
            }
            for (int place : above) {
                Check.due("queued(0, " + place + ") of " + plays, x.queued(0, place), -1);
            }
            if (plays < 8) {
                x.queue(0, plays % 2);
            }
        }
    }

    private static void queuedOfAFullAndAnEmptyQueue() {
        EchoParlour x = parlour();
        Check.due("an empty queue", x.queued(0, 0), -1);
        fill(x, 0, 0);
        for (int left = 7; left >= 0; left--) {
            x.sing(0, 0);
            Check.due("behind the last of " + left, x.queued(0, left), -1);
            Check.due("the first of " + left, x.queued(0, 0), left > 0 ? 0 : -1);
        }
    }
}
