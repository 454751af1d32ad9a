/** Promises 13 to 15: queue, sing, queued. */
public final class PlaysTest {
    public static void main(String[] args) {
        queues();
        queuesInRange();
        queuedPlaces();
        singsInRange();
        worths();
        scores();
        scoresOfStrain();
        playsBehindOneAnother();
        Check.end();
    }

    private static EchoParlour parlour(int rooms, int songs) {
        EchoParlour x = new EchoParlour();
        for (int i = 0; i < rooms; i++) {
            x.room();
        }
        for (int i = 0; i < songs; i++) {
            Check.makeSong(x, "t" + (char) ('a' + i), 1);
        }
        return x;
    }

    private static void queues() {
        EchoParlour x = parlour(2, 3);
        for (int i = 0; i < 8; i++) {
            Check.due("queue, play " + i, x.queue(1, i % 3), i + 1);
        }
        Check.throwsDue("queue, play 9", Check.STATE, () -> x.queue(1, 0));
        Check.due("queue in another room", x.queue(0, 2), 1);
        x.come(1, 0);
        Check.due("the first play", x.sing(1, 0), 1100);
        Check.due("queue again", x.queue(1, 2), 8);
        int[] due = {1, 2, 0, 1, 2, 0, 1, 2};
        for (int i = 0; i < due.length; i++) {
            Check.due("queued(1, " + i + ")", x.queued(1, i), due[i]);
        }
        x.dispute(0, true);
        Check.throwsDue("queue of a disputed song", Check.STATE, () -> x.queue(0, 0));
        Check.due("queue of another", x.queue(0, 1), 2);
        x.dispute(0, false);
        Check.due("queue of a settled song", x.queue(0, 0), 3);
    }

    private static void queuesInRange() {
        EchoParlour x = parlour(1, 1);
        int[] wrong = {-1, 1, 4, 10, Integer.MIN_VALUE, Integer.MAX_VALUE};
        for (int i : wrong) {
            Check.throwsDue("queue(" + i + ", 0)", Check.INDEX, () -> x.queue(i, 0));
            Check.throwsDue("queue(0, " + i + ")", Check.INDEX, () -> x.queue(0, i));
        }
        x.dispute(0, true);
        Check.throwsDue("queue(1, 0) of a disputed song", Check.INDEX, () -> x.queue(1, 0));
        x.dispute(0, false);
        for (int i = 0; i < 8; i++) {
            x.queue(0, 0);
        }
        Check.throwsDue("queue(0, 1), 8 are queued", Check.INDEX, () -> x.queue(0, 1));
    }

    private static void queuedPlaces() {
        EchoParlour x = parlour(1, 2);
        x.queue(0, 1);
        x.queue(0, 0);
        Check.due("queued(0, 0)", x.queued(0, 0), 1);
        Check.due("queued(0, 1)", x.queued(0, 1), 0);
        int[] behind = {2, 7, 8, 9, Integer.MAX_VALUE};
        for (int place : behind) {
            Check.due("queued(0, " + place + ")", x.queued(0, place), -1);
        }
        Check.throwsDue("queued(0, -1)", Check.INDEX, () -> x.queued(0, -1));
        Check.throwsDue("queued(0, least)", Check.INDEX, () -> x.queued(0, Integer.MIN_VALUE));
        int[] wrong = {-1, 1, 4, Integer.MIN_VALUE, Integer.MAX_VALUE};
        for (int room : wrong) {
            Check.throwsDue("queued(" + room + ", 0)", Check.INDEX, () -> x.queued(room, 0));
        }
    }

    private static void singsInRange() {
        EchoParlour x = parlour(2, 1);
        int[] rooms = {-1, 2, Integer.MIN_VALUE, Integer.MAX_VALUE};
        int[] cents = {-1, 2401, Integer.MIN_VALUE, Integer.MAX_VALUE};
        for (int i = 0; i < rooms.length; i++) {
            int room = rooms[i];
            int wrong = cents[i];
            Check.throwsDue("sing(" + room + ", 0)", Check.INDEX, () -> x.sing(room, 0));
            Check.throwsDue("sing(" + room + ", " + wrong + ")", Check.INDEX, () -> x.sing(room, wrong));
            Check.throwsDue("sing(0, " + wrong + ")", Check.ARGUMENT, () -> x.sing(0, wrong));
        }
        Check.throwsDue("nobody sings, nothing is queued", Check.STATE, () -> x.sing(0, 0));
        x.queue(0, 0);
        Check.throwsDue("nobody sings", Check.STATE, () -> x.sing(0, 0));
        x.come(1, 0);
        Check.throwsDue("nothing is queued", Check.STATE, () -> x.sing(1, 0));
        x.come(0, 1);
        Check.throwsDue("cents of 2401", Check.ARGUMENT, () -> x.sing(0, 2401));
        Check.due("the play stands still", x.sing(0, 2400), 1100);
        Check.throwsDue("nothing is queued any more", Check.STATE, () -> x.sing(0, 0));
    }

    /** One note of two is sung, then the singer goes and the play falls out. */
    private static void worths() {
        int[][] due = {
            {0, 0, 100}, {0, 4, 100}, {0, 5, 99}, {0, 9, 99}, {0, 10, 98}, {0, 499, 1}, {0, 500, 0}, {0, 495, 1},
            {0, 600, 0}, {0, 700, 0}, {0, 701, 1}, {0, 1150, 90}, {0, 1195, 99}, {0, 1196, 100}, {0, 1200, 100},
            {0, 1204, 100}, {0, 1205, 99}, {0, 1800, 0}, {0, 2400, 100}, {0, 2396, 100}, {0, 2395, 99},
            {24, 0, 100}, {24, 2400, 100}, {24, 1200, 100}, {24, 1201, 100}, {24, 1, 100}, {24, 5, 99}, {24, 600, 0},
            {12, 1200, 100}, {12, 0, 100}, {12, 2400, 100}, {12, 605, 0}, {12, 1190, 98}, {12, 1210, 98},
            {5, 500, 100}, {5, 1700, 100}, {5, 550, 90}, {5, 450, 90}, {5, 1799, 81}, {5, 2400, 0}, {5, 0, 0},
            {13, 100, 100}, {13, 2400, 80}, {13, 0, 80}, {13, 99, 100}, {7, 100, 0}, {7, 200, 0}, {7, 201, 1},
        };
        for (int[] row : due) {
            EchoParlour x = new EchoParlour();
            int[][] notes = {{row[0], 1, 1}, {0, 1, 1}};
            Check.makeSong(x, "t", notes);
            x.room();
            x.come(0, 0);
            x.queue(0, 0);
            Check.due("pitch " + row[0] + " sung as " + row[1], x.sing(0, row[1]), row[2]);
        }
        everyWorth();
    }

    /** The distance as the document says it, by the nearest octave of the pitch. */
    private static void everyWorth() {
        for (int pitch = 0; pitch <= 24; pitch++) {
            for (int cents = 0; cents <= 2400; cents += 7) {
                int distance = 600;
                for (int octave = -3; octave <= 3; octave++) {
                    distance = Math.min(distance, Math.abs(cents - 100 * pitch + 1200 * octave));
                }
                EchoParlour x = new EchoParlour();
                x.note(pitch, 1, false);
                x.letter('a');
                x.word();
                x.letter('a');
                x.song();
                x.room();
                x.come(0, 0);
                x.queue(0, 0);
                int due = 1000 + Math.max(0, 100 - distance / 5);
                Check.due("a song of pitch " + pitch + " sung as " + cents, x.sing(0, cents), due);
            }
        }
    }

    private static void scores() {
        EchoParlour x = new EchoParlour();
        Check.makeSong(x, "t", 3);
        x.room();
        x.come(0, 0);
        int[][] cents = {{0, 0, 0}, {0, 0, 5}, {0, 5, 5}, {5, 5, 5}, {600, 600, 600}, {0, 600, 600}, {50, 600, 2400}};
        int[] due = {100, 99, 99, 99, 0, 33, 63};
        for (int i = 0; i < cents.length; i++) {
            x.queue(0, 0);
            int before = x.earned(0);
            x.sing(0, cents[i][0]);
            x.sing(0, cents[i][1]);
            Check.due("plays over before the last note", x.about(0, 3), i);
            Check.due("score " + i, x.sing(0, cents[i][2]), 1000 + due[i]);
            Check.due("plays over behind it", x.about(0, 3), i + 1);
            Check.due("a play is paid to nobody", x.earned(0), before);
            Check.due("the play is not queued any more", x.queued(0, 0), -1);
        }
        Check.due("best score", x.about(0, 2), 100);
    }

    private static void scoresOfStrain() {
        int[][][] tunes = {
            {{0, 4, 0}, {0, 4, 0}, {0, 4, 0}},
            {{0, 4, 0}, {0, 4, 0}, {0, 4, 0}, {0, 1, 0}},
            {{0, 4, 0}, {0, 4, 0}, {0, 4, 0}, {0, 1, 1}},
            {{0, 4, 0}, {0, 4, 0}, {0, 4, 1}, {0, 1, 0}},
            {{0, 4, 0}, {0, 4, 0}, {0, 4, 0}, {0, 4, 0}, {0, 4, 0}},
            new int[16][],
        };
        for (int i = 0; i < 16; i++) {
            tunes[5][i] = new int[] {0, 4, 0};
        }
        int[] due = {100, 98, 98, 100, 84, 0};
        for (int i = 0; i < tunes.length; i++) {
            EchoParlour x = new EchoParlour();
            Check.makeSong(x, "t", tunes[i]);
            x.room();
            x.come(0, 0);
            x.queue(0, 0);
            for (int note = 1; note < tunes[i].length; note++) {
                Check.due("a note is worth all, whatever the strain", x.sing(0, 0), 100);
            }
            Check.due("score of the tune " + i, x.sing(0, 0), 1000 + due[i]);
            Check.due("best score of the tune " + i, x.about(0, 2), due[i]);
        }
        EchoParlour x = new EchoParlour();
        Check.makeSong(x, "t", tunes[1]);
        x.room();
        x.come(0, 0);
        x.queue(0, 0);
        x.sing(0, 0);
        x.sing(0, 500);
        x.sing(0, 500);
        Check.due("first the division, then the strain", x.sing(0, 495), 1000 + 23);
    }

    private static void playsBehindOneAnother() {
        EchoParlour x = new EchoParlour();
        int[][] first = {{0, 1, 1}, {5, 1, 1}};
        int[][] second = {{7, 1, 1}};
        Check.makeSong(x, "first", first);
        Check.makeSong(x, "second", second);
        x.room();
        x.room();
        x.come(0, 0);
        x.come(1, 1);
        x.queue(0, 0);
        x.queue(0, 1);
        x.queue(0, 0);
        x.queue(1, 0);
        Check.due("room 0, first note", x.sing(0, 0), 100);
        Check.due("room 1, first note", x.sing(1, 500), 0);
        Check.due("room 0, last note", x.sing(0, 500), 1100);
        Check.due("room 0, the next play", x.queued(0, 0), 1);
        Check.due("room 0, its only note", x.sing(0, 700), 1100);
        Check.due("room 1, last note", x.sing(1, 500), 1050);
        Check.due("room 0, the last play, first note", x.sing(0, 250), 50);
        Check.due("room 0, the last play, last note", x.sing(0, 500), 1075);
        Check.due("plays of the first song", x.about(0, 3), 3);
        Check.due("plays of the second song", x.about(1, 3), 1);
    }
}
