import java.io.IOException;
import java.nio.file.Files;
import java.nio.file.Path;
import java.util.ArrayList;
import java.util.List;
import java.util.regex.Matcher;
import java.util.regex.Pattern;

/** The calls of README.md's example, in its order: each answers what the comment behind it says. */
public final class ReadmeTest {
    private static final PondHouse house = new PondHouse();
    private static final List<Long> answers = new ArrayList<>();

    public static void main(String[] args) throws IOException {
        pondAndActs();
        beatsAndPatches();
        longActs();
        List<Long> told = toldByReadme();
        Checks.same("answers in README.md", told.size(), answers.size());
        for (int i = 0; i < told.size() && i < answers.size(); i++) {
            Checks.same("call " + i + " of README.md", answers.get(i), told.get(i));
        }
        Checks.endWithCode();
    }

    private static void pondAndActs() {
        put("kind flea { field size = 3; act grow { size = size + v; rest; give size; } }");
        answers(house.pond());
        answers(name("flea"));
        answers(name("size"));
        answers(name("grow"));
        answers(house.create(0));
        answers(house.act(0, 2, 4));
        answers(house.told(0));
    }

    private static void beatsAndPatches() {
        answers(house.wake(2));
        answers(house.beat());
        answers(house.value(0, 1));
        put("change flea { rename size len; field age = 1; carry age size * 2; }");
        answers(house.patch());
        answers(house.wake(PondHouse.NONE));
        answers(house.apply(0));
        answers(house.beat());
        answers(house.applied(0));
        answers(house.value(0, name("len")));
        answers(house.value(0, name("age")));
        answers(house.back());
        answers(house.value(0, 1));
    }

    private static void longActs() {
        answers(house.begin(0, 2, 5));
        answers(house.beat());
        answers(house.under(0, 0));
        answers(house.beat());
        answers(house.under(0, 0));
        answers(house.under(0, 5));
    }

    private static void answers(long answer) {
        answers.add(answer);
    }

    private static void answers(boolean answer) {
        answers.add(answer ? 1L : 0L);
    }

    /** As README.md has it. */
    private static void put(String text) {
        for (int from = 0; from < text.length(); from += 20) {
            int[] five = new int[5];
            for (int i = 0; i < 20; i++) {
                int c = from + i < text.length() ? text.charAt(from + i) : ' ';
                five[i / 4] = five[i / 4] << 8 | c;
            }
            house.feed(five[0], five[1], five[2], five[3], five[4]);
        }
        house.end(text.length());
    }

    private static int name(String name) {
        put(name);
        return house.word();
    }

    private static List<Long> toldByReadme() throws IOException {
        List<Long> told = new ArrayList<>();
        Matcher answer = Pattern.compile("; +// (true|false|-?[0-9]+)").matcher(Files.readString(Path.of("README.md")));
        while (answer.find()) {
            String word = answer.group(1);
            told.add(Character.isLetter(word.charAt(0)) ? (word.equals("true") ? 1L : 0L) : Long.parseLong(word));
        }
        return told;
    }
}
