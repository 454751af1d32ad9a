import java.util.ArrayList;
import java.util.List;

/**
 * All promises at once: long runs of calls on the class and on a model of the document, written apart from it and
 * in another way; each answer must be the same. The calls are drawn by a row of numbers that is the same every time.
 */
public final class ModelTest {
    private static final int CALLS = 512;
    private static final int RUNS = 4000;

    private static final long INDEX = 1L << 40;
    private static final long ARGUMENT = 2L << 40;
    private static final long STATE = 3L << 40;

    private static long seed = 20261119L;

    private static int draw(int bound) {
        seed = seed * 6364136223846793005L + 1442695040888963407L;
        return (int) ((seed >>> 33) % bound);
    }

    private static int drawNear(int bound) {
        if (draw(60) != 0) {
            return draw(bound);
        }
        int[] wrong = {-1, bound, bound + 1, Integer.MIN_VALUE, Integer.MAX_VALUE};
        return wrong[draw(wrong.length)];
    }

    public static void main(String[] args) {
        long[] seen = new long[18];
        for (int run = 0; run < RUNS; run++) {
            EchoParlour x = new EchoParlour();
            Model model = new Model();
            boolean isSinging = draw(3) != 0;
            for (int i = 0; i < CALLS; i++) {
                int[] call = i < 60 && isSinging ? opening(i) : drawCall(model);
                long due = onModel(model, call);
                long got = onClass(x, call);
                if (due < INDEX) {
                    seen[call[0]]++;
                }
                if (got != due) {
                    Check.fail("run " + run + ", call " + i + " " + text(call) + " answered " + got + ", due is " + due);
                    Check.end();
                }
            }
        }
        for (int kind = 0; kind < seen.length; kind++) {
            if (seen[kind] < 1000) {
                Check.fail("calls of kind " + kind + " were answered but " + seen[kind] + " times");
            }
        }
        beyondTheLastCall();
        Check.end();
    }

    /** Behind the 512th call the answers are free, but the machine must not throw. */
    private static void beyondTheLastCall() {
        EchoParlour x = new EchoParlour();
        Model model = new Model();
        for (int i = 0; i < 200000; i++) {
            onClass(x, i < 60 ? opening(i) : drawCall(model));
        }
    }

    private static String text(int[] call) {
        StringBuilder text = new StringBuilder();
        for (int part : call) {
            text.append(part).append(' ');
        }
        return text.toString();
    }

    /** Two songs, each of some notes, then rooms, so that plays come early. */
    private static int[] opening(int i) {
        int step = i % 20;
        if (step < 15) {
            int[][] row = {{0, "aei".charAt(i % 3), 0, 0}, {1, 0, 0, 0}, {2, draw(25), 1 + draw(4), draw(3)}};
            return row[step % 3];
        }
        int[][] row = {{0, 'a' + i / 20, 0, 0}, {3, 0, 0, 0}, {6, 0, 0, 0}, {7, draw(2), draw(10), 0},
            {14, draw(2), draw(6), draw(50)}};
        return row[step - 15];
    }

    private static int[] drawCall(Model model) {
        int[] often = {0, 0, 0, 1, 1, 2, 2, 3, 4, 5, 5, 6, 7, 7, 7, 8, 9, 10, 11, 11, 11, 11, 12, 12, 12, 12, 12, 12, 12,
            12, 12, 12, 12, 12, 13, 13, 14, 14, 15, 15, 16, 17, 18};
        int kind = often[draw(often.length)];
        int songs = Math.max(1, model.songs.size());
        int rooms = Math.max(1, model.rooms.size());
        switch (kind) {
            case 0: return new int[] {0, draw(30) == 0 ? draw(70000) : "abcaeio".charAt(draw(7)), 0, 0};
            case 2: return new int[] {2, drawNear(25), draw(40) == 0 ? draw(7) - 1 : 1 + draw(4), draw(3), 0};
            case 5: return new int[] {5, drawNear(songs), drawNear(5), 0};
            case 7: return new int[] {7, drawNear(rooms), drawNear(10), 0};
            case 8: return new int[] {8, drawNear(10), 0, 0};
            case 10: return new int[] {10, drawNear(rooms), 0, 0};
            case 11: return new int[] {11, drawNear(rooms), drawNear(songs), 0};
            case 12: return new int[] {12, drawNear(rooms), draw(2) == 0 ? 50 * draw(49) : drawNear(2401), 0};
            case 13: return new int[] {13, drawNear(rooms), drawNear(9), 0};
            case 14: return new int[] {14, drawNear(songs), drawNear(6), draw(3) == 0 ? drawNear(101) : draw(30)};
            case 15: return new int[] {15, drawNear(songs), draw(2), 0};
            case 16: return new int[] {16, drawNear(6), 0, 0};
            case 17: return new int[] {17, drawNear(6), 0, 0};
            case 18: return new int[] {15, drawNear(songs), 0, 0};
            default: return new int[] {kind, 0, 0, 0};
        }
    }

    private static long onClass(EchoParlour x, int[] call) {
        try {
            return answerOf(x, call[0], call[1], call[2], call[3]);
        } catch (RuntimeException e) {
            return e.getClass() == Check.INDEX ? INDEX
                : e.getClass() == Check.ARGUMENT ? ARGUMENT
                : e.getClass() == Check.STATE ? STATE : Long.MIN_VALUE;
        }
    }

    private static int answerOf(EchoParlour x, int kind, int a, int b, int c) {
        switch (kind) {
            case 0: return x.letter((char) a);
            case 1: return x.word();
            case 2: return x.note(a, b, c == 0);
            case 3: return x.song();
            case 4: return x.find();
            case 5: return x.about(a, b);
            case 6: return x.room();
            case 7: return x.come(a, b);
            case 8: return x.leave(a);
            case 9: return x.pass();
            case 10: return x.sings(a);
            case 11: return x.queue(a, b);
            case 12: return x.sing(a, b);
            case 13: return x.queued(a, b);
            case 14: return x.claim(a, b, c);
            case 15: return x.dispute(a, b == 1);
            case 16: return x.earned(a);
            default: return x.earnedAnew(a);
        }
    }

    private static long onModel(Model m, int[] call) {
        int a = call[1];
        int b = call[2];
        int c = call[3];
        switch (call[0]) {
            case 0: return m.letter((char) a);
            case 1: return m.word();
            case 2: return m.note(a, b, c == 0);
            case 3: return m.song();
            case 4: return m.find();
            case 5: return m.about(a, b);
            case 6: return m.room();
            case 7: return m.come(a, b);
            case 8: return m.leave(a);
            case 9: return m.pass();
            case 10: return m.hasRoom(a) ? m.sings(a) : INDEX;
            case 11: return m.queue(a, b);
            case 12: return m.sing(a, b);
            case 13: return m.queued(a, b);
            case 14: return m.claim(a, b, c);
            case 15: return m.dispute(a, b == 1);
            default: return a >= 0 && a < 6 ? m.earned[a] : INDEX;
        }
    }

    private static final class ModelSong {
        String title;
        List<int[]> notes;
        int[] shares = new int[6];
        List<Integer> scores = new ArrayList<>();
        boolean isDisputed;
    }

    /** A room's line has who sings at its head; a play is {song, worth of each note that was sung ..}. */
    private static final class ModelRoom {
        List<Integer> line = new ArrayList<>();
        List<List<Integer>> plays = new ArrayList<>();
    }

    private static final class Model {
        String typed = "";
        String words = "";
        List<int[]> notes = new ArrayList<>();
        List<ModelSong> songs = new ArrayList<>();
        List<ModelRoom> rooms = new ArrayList<>();
        int[] earned = new int[6];

        boolean hasRoom(int room) {
            return room >= 0 && room < rooms.size();
        }

        boolean hasSong(int song) {
            return song >= 0 && song < songs.size();
        }

        long sings(int room) {
            List<Integer> line = rooms.get(room).line;
            return line.isEmpty() ? -1 : line.get(0);
        }

        static int syllables(String words) {
            int sum = 0;
            for (String word : words.split(" ")) {
                if (!word.isEmpty()) {
                    String rows = word.replaceAll("[aeiou]+", "A").replaceAll("[^A]", "");
                    sum += Math.max(1, rows.length());
                }
            }
            return sum;
        }

        long letter(char letter) {
            if (!String.valueOf(letter).matches("[a-z]")) {
                return ARGUMENT;
            }
            if (typed.length() == 8) {
                return STATE;
            }
            typed += letter;
            return typed.length();
        }

        long word() {
            String all = words + " " + typed;
            if (typed.isEmpty() || syllables(all) > 16) {
                return STATE;
            }
            words = all;
            typed = "";
            return syllables(words);
        }

        long note(int pitch, int beats, boolean hasBreath) {
            if (pitch < 0 || pitch > 24 || beats < 1 || beats > 4) {
                return ARGUMENT;
            }
            if (notes.size() == 16) {
                return STATE;
            }
            notes.add(new int[] {pitch, beats, hasBreath ? 1 : 0});
            return notes.size();
        }

        long song() {
            if (typed.isEmpty() || notes.isEmpty() || syllables(words) != notes.size() || songs.size() == 10) {
                return STATE;
            }
            for (ModelSong each : songs) {
                if (each.title.equals(typed)) {
                    return STATE;
                }
            }
            ModelSong made = new ModelSong();
            made.title = typed;
            made.notes = notes;
            songs.add(made);
            typed = "";
            words = "";
            notes = new ArrayList<>();
            return songs.size() - 1;
        }

        long find() {
            for (ModelSong each : songs) {
                if (each.title.equals(typed) && !each.isDisputed) {
                    return songs.indexOf(each);
                }
            }
            return -1;
        }

        int strain(ModelSong song) {
            int most = 0;
            for (int from = 0; from < song.notes.size(); from++) {
                int beats = 0;
                for (int i = from; i < song.notes.size(); i++) {
                    beats += song.notes.get(i)[1];
                    most = Math.max(most, beats);
                    if (song.notes.get(i)[2] == 1) {
                        break;
                    }
                }
            }
            return most;
        }

        long about(int song, int what) {
            if (!hasSong(song)) {
                return INDEX;
            }
            ModelSong asked = songs.get(song);
            switch (what) {
                case 0: return asked.notes.size();
                case 1: return strain(asked);
                case 2: return asked.scores.stream().mapToInt(Integer::intValue).max().orElse(-1);
                case 3: return asked.scores.size();
                case 4: return asked.isDisputed ? 1 : 0;
                default: return ARGUMENT;
            }
        }

        long room() {
            if (rooms.size() == 4) {
                return STATE;
            }
            rooms.add(new ModelRoom());
            return rooms.size() - 1;
        }

        long come(int room, int singer) {
            if (!hasRoom(room) || singer < 0 || singer > 9) {
                return INDEX;
            }
            List<Integer> line = rooms.get(room).line;
            for (ModelRoom each : rooms) {
                if (each.line.contains(singer)) {
                    return STATE;
                }
            }
            if (line.size() == 7) {
                return STATE;
            }
            line.add(singer);
            return line.size() - 2;
        }

        void headGoes(ModelRoom room) {
            room.line.remove(0);
            if (!room.plays.isEmpty() && room.plays.get(0).size() > 1) {
                room.plays.remove(0);
            }
        }

        long leave(int singer) {
            if (singer < 0 || singer > 9) {
                return INDEX;
            }
            for (int i = 0; i < rooms.size(); i++) {
                int place = rooms.get(i).line.indexOf(singer);
                if (place == 0) {
                    headGoes(rooms.get(i));
                } else if (place > 0) {
                    rooms.get(i).line.remove(place);
                }
                if (place >= 0) {
                    return i;
                }
            }
            return STATE;
        }

        long pass() {
            int others = 0;
            for (ModelRoom each : rooms) {
                if (each.line.size() > 1) {
                    headGoes(each);
                    others++;
                }
            }
            return others;
        }

        long queue(int room, int song) {
            if (!hasRoom(room) || !hasSong(song)) {
                return INDEX;
            }
            if (rooms.get(room).plays.size() == 8 || songs.get(song).isDisputed) {
                return STATE;
            }
            rooms.get(room).plays.add(new ArrayList<>(List.of(song)));
            return rooms.get(room).plays.size();
        }

        long sing(int room, int cents) {
            if (!hasRoom(room)) {
                return INDEX;
            }
            if (cents < 0 || cents > 2400) {
                return ARGUMENT;
            }
            ModelRoom stage = rooms.get(room);
            if (stage.line.isEmpty() || stage.plays.isEmpty()) {
                return STATE;
            }
            List<Integer> play = stage.plays.get(0);
            ModelSong song = songs.get(play.get(0));
            int distance = 600;
            for (int octave = -2400; octave <= 2400; octave += 1200) {
                distance = Math.min(distance, Math.abs(100 * song.notes.get(play.size() - 1)[0] + octave - cents));
            }
            int worth = Math.max(0, 100 - distance / 5);
            play.add(worth);
            if (play.size() - 1 < song.notes.size()) {
                return worth;
            }
            int sum = play.stream().mapToInt(Integer::intValue).sum() - play.get(0);
            int score = Math.max(0, sum / song.notes.size() - 2 * Math.max(0, strain(song) - 12));
            stage.plays.remove(0);
            song.scores.add(score);
            pay(song.shares);
            return 1000 + score;
        }

        /** Cent by cent: first the whole ones, then one more for the greatest remainder that has none yet. */
        void pay(int[] shares) {
            int all = 0;
            for (int share : shares) {
                all += share;
            }
            if (all == 0) {
                return;
            }
            int left = 100;
            int[] remainders = new int[6];
            for (int i = 0; i < 6; i++) {
                int whole = 100 * shares[i] / all;
                remainders[i] = 100 * shares[i] - whole * all;
                earned[i] += whole;
                left -= whole;
            }
            for (; left > 0; left--) {
                int best = 0;
                for (int i = 1; i < 6; i++) {
                    if (remainders[i] > remainders[best]) {
                        best = i;
                    }
                }
                earned[best]++;
                remainders[best] = -1;
            }
        }

        long queued(int room, int place) {
            if (!hasRoom(room) || place < 0) {
                return INDEX;
            }
            List<List<Integer>> plays = rooms.get(room).plays;
            return place < plays.size() ? plays.get(place).get(0) : -1;
        }

        long claim(int song, int writer, int share) {
            if (!hasSong(song) || writer < 0 || writer > 5) {
                return INDEX;
            }
            if (share < 0 || share > 100) {
                return ARGUMENT;
            }
            int[] after = songs.get(song).shares.clone();
            int before = after[writer];
            after[writer] = share;
            int all = 0;
            for (int each : after) {
                all += each;
            }
            if (all > 100) {
                return STATE;
            }
            songs.get(song).shares = after;
            return before;
        }

        long dispute(int song, boolean is) {
            if (!hasSong(song)) {
                return INDEX;
            }
            songs.get(song).isDisputed = is;
            int out = 0;
            for (ModelRoom each : rooms) {
                int before = each.plays.size();
                if (is) {
                    each.plays.removeIf(play -> play.get(0) == song);
                }
                out += before - each.plays.size();
            }
            return out;
        }
    }
}
