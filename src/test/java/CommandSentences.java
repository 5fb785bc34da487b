/** Promises 41 to 44, and of the terms: the commands. */
final class CommandSentences {
  private CommandSentences() {}

  static void all() {
    append();
    form();
    numbers();
    callsOfCommands();
    errorPositions();
    keywords();
    run();
    refusedRuns();
    errorPosition();
    failedCommand();
  }

  private static final String SIXTY = "add 00;add 1;add 2;add 3;add 4;add 5;add 6;add 7;add 8;add 9";

  /** Each command with the fewest characters, with the most, and with the lengths of its numbers. */
  private static final String[][] COMMANDS = {
    {"add 0", "add 999"},
    {"pad 0", "pad 999"},
    {"off 0", "off 9"},
    {"land 0", "land 9"},
    {"send 0 0", "send 9 999"},
    {"reserve 0", "reserve 999"},
    {"form 0 0", "form 9 999"},
    {"clear 0", "clear 9"},
    {"assign 0", "assign 9"},
    {"tick 0", "tick 999"},
    {"colour 0 0 0", "colour 9 999 9"},
  };

  private static String crosses(int count) {
    return "x".repeat(count);
  }

  private static void isForm(String text) {
    DroneLightShow show = new DroneLightShow();
    String got = Sheet.outcome(show, s -> Sheet.runText(s, text));
    Sheet.due("\"" + text + "\" is no command text", got.equals("throws." + Sheet.ARGUMENT), false);
    Sheet.next("errorPosition", show, "throws." + Sheet.MISSING, DroneLightShow::errorPosition);
  }

  private static void errorAt(String text, int position) {
    DroneLightShow show = new DroneLightShow();
    Sheet.next("run of \"" + text + "\"", show, "throws." + Sheet.ARGUMENT, s -> Sheet.runText(s, text));
    Sheet.next("errorPosition of \"" + text + "\"", show, position, DroneLightShow::errorPosition);
    Sheet.next("failedCommand", show, "throws." + Sheet.MISSING, DroneLightShow::failedCommand);
  }

  private static void append() {
    Sheet.sentence(
        41,
        "The command text is a buffer of at most 60 characters.",
        () -> {
          Sheet.answers("the 59th", 59, Sheet.typed(crosses(58)), s -> s.append('x'));
          Sheet.answers("the 60th", 60, Sheet.typed(crosses(59)), s -> s.append('x'));
          Sheet.refusedAsItIs("the 61st", Sheet.STATE, Sheet.typed(crosses(60)), s -> s.append('x'));
          Sheet.answers("60 that are run", 10, Sheet.typed(SIXTY), DroneLightShow::run);
          Sheet.Setup again = Sheet.with(Sheet.typed(SIXTY), DroneLightShow::run);
          Sheet.answers("60 more", 60, Sheet.with(again, s -> Sheet.type(s, crosses(59))), s -> s.append('x'));
        });
    Sheet.sentence(
        41,
        "Appends a character to the command text.",
        () -> {
          DroneLightShow show = new DroneLightShow();
          Sheet.type(show, "add 12");
          Sheet.due("run", show.run(), 1);
          Sheet.due("the drone's cell", show.cellOf(0), 12);
          Sheet.answers("0 at the end", 50, Sheet.with(Sheet.typed("add 5"), s -> s.append('0')), CommandSentences::cellOfFirst);
          Sheet.answers("without it", 5, Sheet.typed("add 5"), CommandSentences::cellOfFirst);
        });
    Sheet.sentence(
        41,
        "`character`: the character",
        () -> {
          for (int code = 32; code <= 126; code++) {
            char character = (char) code;
            Sheet.answers("append(" + code + ")", 1, Sheet.typed(""), s -> s.append(character));
          }
        });
    Sheet.sentence(
        41,
        "Returns the length of the command text after the call.",
        () -> {
          DroneLightShow show = new DroneLightShow();
          for (int length = 1; length <= 60; length++) {
            Sheet.due("append", show.append(SIXTY.charAt(length - 1)), length);
          }
          show.run();
          Sheet.due("append after run", show.append('a'), 1);
          Sheet.next("run of it", show, "throws." + Sheet.ARGUMENT, DroneLightShow::run);
          Sheet.due("append after a refused run", show.append('a'), 1);
        });
    Sheet.sentence(
        41,
        "Throws `IllegalArgumentException` if the code of the character is not from 32 to 126",
        () -> {
          for (int code : new int[] {32, 33, 125, 126}) {
            Sheet.answers("append(" + code + ")", 3, Sheet.typed("ad"), s -> s.append((char) code));
          }
          for (int code : new int[] {0, 10, 31, 127, 128, 160, 255, 256, 288, 65535}) {
            Sheet.refusedAsItIs("append(" + code + ")", Sheet.ARGUMENT, Sheet.typed("clear 3"), s -> s.append((char) code));
          }
          for (int code : new int[] {31, 127}) {
            Sheet.refusedAsItIs("append to a full text", Sheet.ARGUMENT, Sheet.typed(SIXTY), s -> s.append((char) code));
          }
        });
    Sheet.sentence(
        41,
        "Throws `IllegalStateException` if the command text has 60 characters",
        () -> {
          Sheet.answers("with 58", 59, Sheet.typed(SIXTY.substring(0, 58)), s -> s.append('0'));
          Sheet.answers("with 59", 60, Sheet.typed(SIXTY.substring(0, 59)), s -> s.append('0'));
          for (char character : new char[] {32, 126, ';', '0'}) {
            Sheet.refusedAsItIs("with 60", Sheet.STATE, Sheet.typed(SIXTY), s -> s.append(character));
          }
        });
  }

  /** No character of a text that was run continues the one that is run after it. */
  private static void leftOver(String first, String second, int position) {
    DroneLightShow show = new DroneLightShow();
    Sheet.outcome(show, s -> Sheet.runText(s, first));
    String what = "\"" + second + "\" after \"" + first + "\"";
    Sheet.next("run of " + what, show, "throws." + Sheet.ARGUMENT, s -> Sheet.runText(s, second));
    Sheet.due("the error position of " + what, show.errorPosition(), position);
  }

  private static int cellOfFirst(DroneLightShow show) {
    show.run();
    return show.cellOf(0);
  }

  private static void form() {
    Sheet.sentence(
        42,
        "A command text has the following form, where braces mean zero or more repetitions and brackets an optional part:",
        () -> {
          errorAt("", 0);
          isForm("add 1");
          isForm("add 1;add 2");
          isForm("add 12;add 123");
          errorAt("{add 1}", 0);
          errorAt("add [1]", 4);
          errorAt("\"add \" 1", 0);
        });
    Sheet.sentence(
        42,
        "text = command { \";\" command }",
        () -> {
          Sheet.answers("one command", 1, Sheet.typed("clear 0"), DroneLightShow::run);
          Sheet.answers("two commands", 2, Sheet.typed("clear 0;clear 0"), DroneLightShow::run);
          Sheet.answers("seven commands", 7, Sheet.typed("clear 0" + ";clear 0".repeat(6)), DroneLightShow::run);
          Sheet.answers("ten commands", 10, Sheet.typed(SIXTY), DroneLightShow::run);
          errorAt("", 0);
          errorAt(";", 0);
          errorAt("clear 0;", 8);
          errorAt(";clear 0", 0);
          errorAt("clear 0;;clear 0", 8);
          errorAt("clear 0; clear 0", 8);
          errorAt("clear 0 ;clear 0", 7);
          errorAt("clear 0,clear 0", 7);
          errorAt("clear 0clear 0", 7);
          errorAt(" clear 0", 0);
          errorAt("clear 0 ", 7);
        });
    Sheet.sentence(
        42,
        "command = \"add \" number | \"pad \" number | \"off \" digit | \"land \" digit | \"send \" digit \" \" number | \"reserve \" number | \"form \" digit \" \" number | \"clear \" digit | \"assign \" digit | \"tick \" number | \"colour \" digit \" \" number \" \" digit",
        () -> {
          for (String[] pair : COMMANDS) {
            for (String command : pair) {
              isForm(command);
              isForm(command + ";" + command);
              errorAt(command + " ", command.length());
              errorAt(command + "x", command.length());
              errorAt(command.replaceFirst(" ", "  "), command.indexOf(' ') + 1);
              errorAt(command.replaceFirst(" ", ""), command.indexOf(' '));
              errorAt(command.replaceFirst(" [0-9]", " x"), command.indexOf(' ') + 1);
              errorAt(command.replaceFirst(" [0-9]", " -"), command.indexOf(' ') + 1);
            }
            errorAt(pair[1] + "9", pair[1].length());
          }
        });
  }

  private static void numbers() {
    Sheet.sentence(
        42,
        "number = digit [ digit ] [ digit ]",
        () -> {
          String[] before = {"add ", "pad ", "send 0 ", "reserve ", "form 0 ", "tick "};
          for (String start : before) {
            errorAt(start, start.length());
            isForm(start + "5");
            isForm(start + "05");
            isForm(start + "005");
            errorAt(start + "0005", start.length() + 3);
          }
          errorAt("colour 0  1", 9);
          isForm("colour 0 5 1");
          isForm("colour 0 05 1");
          isForm("colour 0 005 1");
          errorAt("colour 0 0005 1", 12);
          Sheet.answers("one digit", 7, Sheet.typed("add 7"), CommandSentences::cellOfFirst);
          Sheet.answers("two digits", 7, Sheet.typed("add 07"), CommandSentences::cellOfFirst);
          Sheet.answers("three digits", 7, Sheet.typed("add 007"), CommandSentences::cellOfFirst);
          Sheet.answers("the greatest cell", 63, Sheet.typed("add 063"), CommandSentences::cellOfFirst);
          Sheet.Setup cued = Sheet.with(Sheet.drones(9), s -> Sheet.runText(s, "colour 0 999 1"));
          Sheet.answers("three digits that count", 999, cued, DroneLightShow::nextCueTime);
          errorAt("colour 00 1 1", 8);
          errorAt("off 00", 5);
          errorAt("send 00 1", 6);
          errorAt("colour 0 1 11", 12);
        });
  }

  private static void callsOfCommands() {
    Sheet.sentence(
        42,
        "The commands call addDrone(), addPad(), takeOff(), land(), sendTo(), setReserve(), addToFormation(), clearFormation(), assign(), advance() and cueColour(), with the numbers of the command as parameters in their order.",
        () -> {
          Sheet.Setup start =
              Sheet.with(
                  Sheet.flying(0, 1, 2),
                  show -> {
                    show.addDrone(3);
                    show.addPad(2);
                    show.addToFormation(1, 40);
                    show.addToFormation(3, 41);
                  });
          same(start, "add 63", s -> s.addDrone(63));
          same(start, "pad 63", s -> s.addPad(63));
          same(start, "off 3", s -> s.takeOff(3));
          same(start, "land 2", s -> s.land(2));
          same(start, "send 1 2", s -> s.sendTo(1, 2));
          same(start, "send 2 001", s -> s.sendTo(2, 1));
          same(start, "reserve 30", s -> s.setReserve(30));
          same(start, "form 1 2", s -> s.addToFormation(1, 2));
          same(start, "form 2 1", s -> s.addToFormation(2, 1));
          same(start, "clear 3", s -> s.clearFormation(3));
          same(start, "assign 1", s -> s.assign(1));
          same(start, "tick 30", s -> s.advance(30));
          same(start, "colour 1 2 3", s -> s.cueColour(1, 2, 3));
          same(start, "colour 3 1 2", s -> s.cueColour(3, 1, 2));
        });
  }

  private static void same(Sheet.Setup start, String text, Sheet.Step call) {
    Sheet.alike(text, Sheet.with(start, s -> Sheet.runText(s, text)), Sheet.with(start, call), true);
  }

  private static void errorPositions() {
    Sheet.sentence(
        43,
        "The error position of a text is the index of the first character that cannot continue any command text.",
        () -> {
          String[] texts = {"add 12;off 3", "send 1 23;tick 4", "colour 1 234 5;land 6", "form 7 8;clear 9"};
          for (String text : texts) {
            for (int index = 0; index < text.length(); index++) {
              errorAt(text.substring(0, index) + "~" + text.substring(index + 1), index);
              errorAt(text.substring(0, index) + "~~", index);
              errorAt(text.substring(0, index) + "~", index);
            }
            errorAt(text + "~", text.length());
          }
          errorAt("tick 1;tick 1;tick 1;tick 1;tick 1;tick 1;tick 1;tick 1;ti k", 58);
          errorAt("tick 1;tick 1;tick 1;tick 1;tick 1;tick 1;tick 1;tick 1;tic_", 59);
          errorAt("~" + crosses(59), 0);
          errorAt("add 1;ad;add 2", 8);
          errorAt("add 64;x", 7);
        });
    Sheet.sentence(
        43,
        "If every character can, the error position is the length of the text.",
        () -> {
          errorAt("", 0);
          for (String[] pair : COMMANDS) {
            String text = pair[1];
            for (int length = 0; length < text.length(); length++) {
              String piece = text.substring(0, length);
              if (!piece.matches("(add|pad|reserve|tick) \\d+|(send|form) \\d \\d+")) {
                errorAt(piece, length);
                errorAt(pair[0] + ";" + piece, pair[0].length() + 1 + length);
              } else {
                isForm(piece);
              }
            }
          }
          errorAt("tick 1;tick 1;tick 1;tick 1;tick 1;tick 1;tick 1;tick 1;tic", 59);
          errorAt("tick 1;tick 1;tick 1;tick 1;tick 1;tick 1;tick 1;tick 1;tick", 60);
        });
  }

  private static void keywords() {
    Sheet.sentence(
        43,
        "Keywords are matched character by character.",
        () -> {
          errorAt("ax", 1);
          errorAt("ad", 2);
          errorAt("as", 2);
          errorAt("an", 1);
          errorAt("adsign 1", 2);
          errorAt("asd 1", 2);
          errorAt("cl", 2);
          errorAt("co", 2);
          errorAt("cr", 1);
          errorAt("clour 1 2 3", 2);
          errorAt("colear 1", 3);
          errorAt("color 1 2 3", 4);
          errorAt("lan 1", 3);
          errorAt("offf 1", 3);
          errorAt("of 1", 2);
          errorAt("b", 0);
          errorAt("0", 0);
          for (String[] pair : COMMANDS) {
            String keyword = pair[0].substring(0, pair[0].indexOf(' '));
            errorAt(keyword.toUpperCase() + " 1", 0);
            for (int index = 0; index < keyword.length(); index++) {
              String upper = keyword.substring(index, index + 1).toUpperCase();
              errorAt(keyword.substring(0, index) + upper + keyword.substring(index + 1) + " 1", index);
            }
            errorAt(keyword, keyword.length());
            errorAt(keyword + ";", keyword.length());
          }
        });
  }

  private static void run() {
    Sheet.sentence(
        42,
        "Parses the command text and carries out its commands in order.",
        () -> {
          Sheet.Setup done = Sheet.with(Sheet.typed("add 0;off 0;send 0 9;tick 2;send 0 1;tick 1"), DroneLightShow::run);
          Sheet.answers("in this order", "1:94F>1", done, Sheet::fleet);
          Sheet.refusedRun("off 0;add 0", Sheet.STATE, 0, Sheet.drones());
          Sheet.answers("in this order", 2, Sheet.typed("add 0;off 0"), DroneLightShow::run);
          Sheet.answers("cleared at the end", " 0 0 0 0", Sheet.with(Sheet.typed("form 0 1;clear 0"), DroneLightShow::run), Sheet::masks);
          Sheet.answers("cleared at first", " 2 0 0 0", Sheet.with(Sheet.typed("clear 0;form 0 1"), DroneLightShow::run), Sheet::masks);
        });
    Sheet.sentence(
        42,
        "Either all commands are carried out, or none.",
        () -> {
          Sheet.answers("all", 3, Sheet.typed("add 0;add 1;add 2"), DroneLightShow::run);
          Sheet.refusedRun("add 64;add 1;add 2", Sheet.STATE, 0, Sheet.drones());
          Sheet.refusedRun("add 0;add 64;add 2", Sheet.STATE, 1, Sheet.drones());
          Sheet.refusedRun("add 0;add 1;add 64", Sheet.STATE, 2, Sheet.drones());
          Sheet.refusedRun("add 5;pad 5;off 0;form 0 1;tick 9;reserve 5;tick 0", Sheet.STATE, 6, Sheet.drones());
          Sheet.refusedRun("tick 30;tick 30;tick 30;off 0", Sheet.STATE, 3, Sheet.flying(0));
          Sheet.refusedRun("add 0;add 1;add", Sheet.ARGUMENT, 15, Sheet.drones());
        });
    Sheet.sentence(
        42,
        "The command text is empty after the call, also if an exception is thrown.",
        () -> {
          for (String text : new String[] {"add 1", "add 64", "add", "", SIXTY, crosses(60)}) {
            DroneLightShow show = Sheet.typed(text).make();
            Sheet.outcome(show, DroneLightShow::run);
            Sheet.next("run of nothing", show, "throws." + Sheet.ARGUMENT, DroneLightShow::run);
            Sheet.due("its error position", show.errorPosition(), 0);
            Sheet.due("append", show.append('c'), 1);
            Sheet.due("a text of its own", Sheet.runText(show, "lear 0"), 1);
          }
          leftOver("add 12", "ad", 2);
          leftOver("add 12", "add ", 4);
          leftOver("add 1;add 2", "add 1;", 6);
          leftOver("add 1;off 0;send 0 23", "add 3;off 1;send 1", 18);
          leftOver("add 1;off 0;send 0 23", "add 3;off 1;send 1 ", 19);
          leftOver("add 64;add 12", "add 64;", 7);
          leftOver("add 1;add 2;", "add 1;add", 9);
          leftOver(SIXTY, SIXTY.substring(0, 57), 57);
          DroneLightShow digits = Sheet.with(Sheet.typed("add 12"), DroneLightShow::run).make();
          Sheet.next("a number that is shorter", digits, 1, s -> Sheet.runText(s, "add 1"));
          Sheet.due("its cell", digits.cellOf(1), 1);
        });
    Sheet.sentence(
        42,
        "Returns the number of commands.",
        () -> {
          for (int count = 1; count <= 10; count++) {
            String text = SIXTY.substring(0, 6 * count);
            Sheet.answers("run of " + count, count, Sheet.typed(text), DroneLightShow::run);
          }
        });
  }

  private static void refusedRuns() {
    Sheet.sentence(
        42,
        "The first command whose method would throw an exception is the failed command.",
        () -> {
          Sheet.refusedRun("add 64", Sheet.STATE, 0, Sheet.drones());
          Sheet.refusedRun("add 0;add 0;add 0", Sheet.STATE, 1, Sheet.drones());
          Sheet.refusedRun("add 0;add 1;add 64;tick 0", Sheet.STATE, 2, Sheet.drones());
          Sheet.refusedRun("add 0;add 1;add 2;add 3;add 4;add 5;add 6;add 7;add 8;add 64", Sheet.STATE, 9, Sheet.drones());
          Sheet.answers("none", 10, Sheet.typed(SIXTY), DroneLightShow::run);
          failing("add", "add 63;add 63", 1);
          failing("pad", "pad 0;pad 1;pad 0", 2);
          failing("off", "off 0", 0);
          failing("land", "land 0", 0);
          failing("send", "send 0 63;send 0 64", 1);
          failing("reserve", "reserve 5;reserve 30;reserve 31", 2);
          failing("reserve", "reserve 5;reserve 4", 1);
          failing("form", "form 3 0;form 4 0", 1);
          failing("clear", "clear 3;clear 4", 1);
          failing("assign", "assign 0", 0);
          failing("tick", "tick 30;tick 1;tick 31", 2);
          failing("tick", "tick 1;tick 0", 1);
          failing("colour", "colour 0 1 7;colour 0 1 8", 1);
          failing("colour", "tick 5;colour 0 6 1;colour 0 5 1", 2);
        });
    Sheet.sentence(
        42,
        "Throws `IllegalArgumentException` if the text is not a command text; the error position is set and the failed command is left as it is",
        () -> {
          Sheet.refusedRun("", Sheet.ARGUMENT, 0, Sheet.flying(9));
          Sheet.refusedRun("x", Sheet.ARGUMENT, 0, Sheet.flying(9));
          Sheet.refusedRun("add 5;", Sheet.ARGUMENT, 6, Sheet.flying(9));
          Sheet.refusedRun("add 64;add", Sheet.ARGUMENT, 10, Sheet.flying(9));
          Sheet.refusedRun(crosses(60), Sheet.ARGUMENT, 0, Sheet.flying(9));
          Sheet.answers("a command text", 1, Sheet.typed("add 5"), DroneLightShow::run);
        });
    Sheet.sentence(
        42,
        "Throws `IllegalStateException` if a command fails; the failed command is set and the error position is left as it is",
        () -> {
          Sheet.refusedRun("add 9", Sheet.STATE, 0, Sheet.flying(9));
          Sheet.refusedRun("add 8;add 9", Sheet.STATE, 1, Sheet.flying(9));
          Sheet.refusedRun("send 0 8;tick 1;tick 31", Sheet.STATE, 2, Sheet.flying(9));
          Sheet.answers("no command fails", 1, Sheet.with(Sheet.flying(9), s -> Sheet.type(s, "add 8")), DroneLightShow::run);
          Sheet.refusedRun("clear 9", Sheet.STATE, 0, Sheet.drones());
        });
  }

  private static void failing(String what, String text, int index) {
    DroneLightShow show = Sheet.flying(20).make();
    Sheet.next(what, show, "throws." + Sheet.STATE, s -> Sheet.runText(s, text));
    Sheet.next("failedCommand of " + what, show, index, DroneLightShow::failedCommand);
    Sheet.next("errorPosition of " + what, show, "throws." + Sheet.MISSING, DroneLightShow::errorPosition);
    Sheet.due("the drone", Sheet.fleet(show), "20:100F");
  }

  private static void tries(DroneLightShow show, String text) {
    Sheet.outcome(show, s -> Sheet.runText(s, text));
  }

  private static void errorPosition() {
    Sheet.sentence(
        43,
        "Returns the error position that was set last.",
        () -> {
          DroneLightShow show = new DroneLightShow();
          String[] texts = {"adx", "add 1", "add 64", "add 1;;", "add 2", "clear 9", ""};
          int[] want = {2, 2, 2, 6, 6, 6, 0};
          for (int index = 0; index < texts.length; index++) {
            tries(show, texts[index]);
            Sheet.due("after \"" + texts[index] + "\"", show.errorPosition(), want[index]);
          }
        });
    Sheet.sentence(
        43,
        "Returns the error position.",
        () -> {
          errorAt("~", 0);
          errorAt("a~", 1);
          errorAt(SIXTY.substring(0, 58), 58);
          errorAt(SIXTY.substring(0, 59) + "~", 59);
        });
    Sheet.sentence(
        43,
        "Throws `NoSuchElementException` if no error position was set",
        () -> {
          Sheet.refusedAsItIs("at first", Sheet.MISSING, Sheet.flying(9), DroneLightShow::errorPosition);
          Sheet.Setup good = Sheet.with(Sheet.drones(), s -> tries(s, "add 1"));
          Sheet.refusedAsItIs("after a run", Sheet.MISSING, good, DroneLightShow::errorPosition);
          Sheet.Setup failed = Sheet.with(Sheet.drones(), s -> tries(s, "add 64"));
          Sheet.refusedAsItIs("after a failed command", Sheet.MISSING, failed, DroneLightShow::errorPosition);
          Sheet.refusedAsItIs("before a run", Sheet.MISSING, Sheet.typed("add"), DroneLightShow::errorPosition);
          Sheet.Setup bad = Sheet.with(Sheet.drones(), s -> tries(s, "add"));
          Sheet.answers("after a refused run", 3, bad, DroneLightShow::errorPosition);
        });
  }

  private static void failedCommand() {
    Sheet.sentence(
        44,
        "Returns the index of the failed command of the latest run in which a command failed.",
        () -> {
          DroneLightShow show = new DroneLightShow();
          String[] texts = {"clear 0;clear 9", "add 1", "adx", "add 1;;", "clear 9;clear 8", "add 2;add 3;add 3", ""};
          int[] want = {1, 1, 1, 1, 0, 2, 2};
          for (int index = 0; index < texts.length; index++) {
            tries(show, texts[index]);
            Sheet.due("after \"" + texts[index] + "\"", show.failedCommand(), want[index]);
          }
        });
    Sheet.sentence(
        44,
        "Returns the index, from 0.",
        () -> {
          for (int index = 0; index <= 9; index++) {
            String text = "add 0;add 1;add 2;add 3;add 4;add 5;add 6;add 7;add 8;".substring(0, 6 * index) + "add 64";
            DroneLightShow show = new DroneLightShow();
            tries(show, text);
            Sheet.due("failedCommand of \"" + text + "\"", show.failedCommand(), index);
          }
        });
    Sheet.sentence(
        44,
        "Throws `NoSuchElementException` if no command has failed",
        () -> {
          Sheet.refusedAsItIs("at first", Sheet.MISSING, Sheet.flying(9), DroneLightShow::failedCommand);
          Sheet.Setup good = Sheet.with(Sheet.drones(), s -> tries(s, "add 1"));
          Sheet.refusedAsItIs("after a run", Sheet.MISSING, good, DroneLightShow::failedCommand);
          Sheet.Setup bad = Sheet.with(Sheet.drones(), s -> tries(s, "add"));
          Sheet.refusedAsItIs("after a refused text", Sheet.MISSING, bad, DroneLightShow::failedCommand);
          Sheet.Setup refused = Sheet.with(Sheet.drones(), s -> Sheet.outcome(s, t -> t.addDrone(64)));
          Sheet.refusedAsItIs("after a refused call", Sheet.MISSING, refused, DroneLightShow::failedCommand);
          Sheet.Setup failed = Sheet.with(Sheet.drones(), s -> tries(s, "add 64"));
          Sheet.answers("after a failed command", 0, failed, DroneLightShow::failedCommand);
        });
  }
}
